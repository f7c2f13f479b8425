/-! ===== the BYTES, on: giveBytes' entry, the reference's giveBytes, byteOf, turnBytes ===== -/
section XBytes3
variable {G : xG} {h : xH} {z g : Nat} {A : Nat → Nat} {B : Nat → Value} {I : Nat → Int32} {J : Nat → Int64}
theorem x_same {α : Type} {f : Nat → α} {a : Nat} {x : α} (h : f a = x) : va_up f a x = f := by
  funext q
  by_cases hq : q = a
  · rw [hq, va_up_self, h]
  · rw [va_up_ne _ _ hq]
theorem x_usame {f : Nat → Int32} {a : Nat} {x : Int32} (h : f a = x) : upd f a x = f := by
  funext q
  unfold upd
  by_cases hq : q = a
  · rw [if_pos hq, hq, h]
  · rw [if_neg hq]
theorem xEx.at {M : xM} {pc kc ks : Nat} {l : List (Nat × Value)} {st : List Value} {h' : xH} {Q : xQ} (e : h' = h) (k : xEx G M pc l st h z kc ks Q) : xEx G M pc l st h' z kc ks Q := by rw [e]; exact k
theorem xQc.mono {Q Q' : xQ} (hq : ∀ v h z, Q v h z → Q' v h z) {a : Array Value} {st : State} {o : Outcome} {t : State} (k : xQc G Q a st o t) : xQc G Q' a st o t := by
  obtain ⟨⟨v, h', z', e, q, hR⟩, hF⟩ := k
  exact ⟨⟨v, h', z', e, hq v h' z' q, hR⟩, hF⟩
/-- a weaker end -/
theorem xEx.mono {M : xM} {pc kc ks : Nat} {l : List (Nat × Value)} {st : List Value} {Q Q' : xQ} (k : xEx G M pc l st h z kc ks Q) (hq : ∀ v h z, Q v h z → Q' v h z) : xEx G M pc l st h z kc ks Q' := by
  intro p la e R s m args below meth c H locs cells slots mc ms ls F a1 a2 a3 a4 a5 a6 hl hR hS
  intro T hT X
  obtain ⟨t, b1, o, b2, b3, b4, b5⟩ := k p la e R s m args below meth c H locs cells slots mc ms ls F a1 a2 a3 a4 a5 a6 hl hR hS T hT X
  exact ⟨t, b1, o, b2, b3, xQc.mono hq b4, b5⟩
set_option maxRecDepth 100000 in
set_option maxHeartbeats 4000000 in
/-- GuardForge.giveBytes -/
theorem c_X11_giveBytes (hW : xW G) (hcl : q_cl G = vwCl) (hty : q_ty G = g_ty) {m : Nat} {f : Nat → Int32} {v : Int64} {n : Int32} (hne : A 0 ≠ g) (hg : h g = some (.inr (11, oX11 A B I J))) (hb : h (A 0) = some (.inl (.byte, 8192, .inl f))) (hm : I 2 = nI m) (hm2 : m ≤ 8192) :
    xC G mX11_giveBytes [.ref g, .long v, .int n] h z 0 0 (fun w h' z' => z' = z ∧ ((∃ r, 1 ≤ r ∧ r ≤ 8 ∧ n = nI r ∧ m + r ≤ 8192 ∧ w = some (.int 1) ∧ h' = va_up (va_up h (A 0) (some (.inl (.byte, 8192, .inl (y_gC v r f m))))) g (some (.inr (11, oX11 A B (upd I 2 (nI (m + r))) J)))) ∨ ((∀ r, 1 ≤ r → r ≤ 8 → m + r ≤ 8192 → n ≠ nI r) ∧ w = some (.int 0) ∧ h' = h))) := by
  have hO : xO G mX11_giveBytes tbX11_giveBytes ptX11_giveBytes := ⟨tkX11_giveBytes, pkX11_giveBytes hcl⟩
  refine xC.of hW (by decide) rfl (Nat.le_of_ble_eq_true rfl) ?_
  refine s_iload_n (nx := 1) hO rfl rfl rfl ?_
  refine s_iconst (x := 1) (nx := 2) hO rfl (by decide) rfl ?_
  refine s_icmp_lt (nx := 5) hO rfl rfl (fun c2 => ?_) (fun c2 => ?_)
  · refine s_iconst (x := 0) (nx := 24) hO rfl (by decide) rfl ?_
    exact s_iret hO rfl rfl rfl ⟨rfl, Or.inr ⟨fun r h1 h2 h3 e => by
      subst e
      exact absurd c2 (nI_nlt (a := r) (b := 1) h1 (by omega)), rfl, rfl⟩⟩
  · refine s_iload_n (nx := 6) hO rfl rfl rfl ?_
    refine s_bipush (x := nI 8) (nx := 8) hO rfl (by decide) rfl ?_
    refine s_icmp_gt (nx := 11) hO rfl rfl (fun c8 => ?_) (fun c8 => ?_)
    · refine s_iconst (x := 0) (nx := 24) hO rfl (by decide) rfl ?_
      exact s_iret hO rfl rfl rfl ⟨rfl, Or.inr ⟨fun r h1 h2 h3 e => by
        subst e
        exact absurd c8 (nI_nlt (a := 8) (b := r) h2 (by omega)), rfl, rfl⟩⟩
    · have h0 : ¬ n < 0 := fun q => c2 (by
        have h1 := Int32.lt_iff_toInt_lt.mp q
        refine Int32.lt_iff_toInt_lt.mpr ?_
        have e1 : (1 : Int32).toInt = 1 := by decide
        have e0 : (0 : Int32).toInt = 0 := by decide
        omega)
      obtain ⟨r, hr, rfl⟩ := nI_of h0
      have r1 : 1 ≤ r := by
        refine Nat.le_of_not_lt (fun q => c2 ?_)
        exact nI_lt (a := r) (b := 1) q (by decide)
      have r8 : r ≤ 8 := by
        refine Nat.le_of_not_lt (fun q => c8 ?_)
        exact nI_lt q hr
      refine s_iload_n (nx := 12) hO rfl rfl rfl ?_
      refine s_sipush (x := nI 8192) (nx := 15) hO rfl (by decide) rfl ?_
      refine s_aload_n (nx := 16) hO rfl rfl rfl ?_
      refine s_getf (nx := 19) hO rfl rfl hg rfl rfl ?_
      refine s_isub (nx := 20) hO rfl rfl ?_
      rw [hm, pk_sub hm2]
      refine s_icmp_le (nx := 23) hO rfl rfl (fun c20 => ?_) (fun c20 => ?_)
      · have hfit : r ≤ 8192 - m := (nI_leI hr (by omega)).mp c20
        refine s_iload_n (nx := 26) hO rfl rfl rfl ?_
        refine s_iconst (x := 1) (nx := 27) hO rfl (by decide) rfl ?_
        refine s_isub (nx := 28) hO rfl rfl ?_
        refine s_istore (nx := 30) (l' := [(4, _), (0, _), (1, _), (3, _)]) hO rfl (by decide) rfl rfl ?_
        refine xEx.at (h := va_up (va_up h (A 0) (some (.inl (.byte, 8192, .inl f)))) g (some (.inr (11, oX11 A B (upd I 2 (nI m)) J)))) (by rw [x_same hb, x_usame hm, x_same hg]) ?_
        have k := l_X11_giveBytes (h := h) (z := z) (g := g) (A := A) (B := B) (I := I) (J := J) hO hty hne (v := v) (n := nI r) r m f (by omega)
        exact k.mono (fun w h' z' q => ⟨q.1, Or.inl ⟨r, r1, r8, rfl, by omega, q.2.1, q.2.2⟩⟩)
      · refine s_iconst (x := 0) (nx := 24) hO rfl (by decide) rfl ?_
        exact s_iret hO rfl rfl rfl ⟨rfl, Or.inr ⟨fun r' h1 h2 h3 e => by
          have e2 : r = r' := (nI_eq hr (by omega)).mp e
          subst e2
          exact c20 ((nI_leI hr (by omega)).mpr (by omega)), rfl, rfl⟩⟩
end XBytes3

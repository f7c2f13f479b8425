/-! ===== the reference is made; the law's run ===== -/
theorem xEx.post {G : xG} {M : xM} {pc : Nat} {l : List (Nat × Value)} {st : List Value} {h : xH} {z kc ks : Nat} {Q Q' : xQ} (hQ : ∀ v h' z', Q v h' z' → Q' v h' z') (k : xEx G M pc l st h z kc ks Q) : xEx G M pc l st h z kc ks Q' := by
  intro p la e R s m args below meth c H locs cells slots mc ms ls F a1 a2 a3 a4 a5 a6 hv hR hS
  intro T hT X
  obtain ⟨t, b0, oc, b1, b2, ⟨⟨v, h', z', hv', hq, hr⟩, hf⟩, hrest⟩ := k p la e R s m args below meth c H locs cells slots mc ms ls F a1 a2 a3 a4 a5 a6 hv hR hS T hT X
  exact ⟨t, b0, oc, b1, b2, ⟨⟨v, h', z', hv', hQ _ _ _ hq, hr⟩, hf⟩, hrest⟩
theorem x_one {h : xH} {z : Nat} {L : List xE} {e0 e1 : xE} : va_up (x_adds (va_up h z (some e0)) (z + 1) L) z (some e1) = x_adds h z (e1 :: L) := by
  funext q
  by_cases h1 : q = z
  · subst h1
    rw [va_up_self]
    exact (x_adds_at (i := 0) (e := e1) rfl).symm
  · rw [va_up_ne _ _ h1]
    unfold x_adds
    by_cases h2 : z ≤ q
    · rw [if_pos h2, if_pos (show z + 1 ≤ q by omega), show q - z = (q - (z + 1)) + 1 by omega, List.getElem?_cons_succ, va_up_ne _ _ h1]
    · rw [if_neg h2, if_neg (by omega), va_up_ne _ _ h1]
theorem x_app {h : xH} {z y : Nat} {L M : List xE} (hy : y = z + L.length) : x_adds (x_adds h z L) y M = x_adds h z (L ++ M) := by
  subst hy
  funext q
  unfold x_adds
  by_cases h2 : z ≤ q
  · rw [if_pos h2, if_pos h2]
    by_cases h3 : z + L.length ≤ q
    · rw [if_pos h3, List.getElem?_append_right (by omega), show q - z - L.length = q - (z + L.length) by omega, List.getElem?_eq_none (l := L) (by omega)]
    · rw [if_neg h3, List.getElem?_append_left (by omega)]
  · rw [if_neg h2, if_neg h2, if_neg (by omega)]
theorem x_all {G : xG} {s : yS} {L : List xE} (hL : ∀ i, L[i]? = ce G s i) : x_adds (fun _ => none) (q_b G) L = hS G s := by
  funext q
  unfold x_adds hS
  by_cases h : q_b G ≤ q
  · rw [if_pos h, if_pos h, hL]
    cases ce G s (q - q_b G) <;> rfl
  · rw [if_neg h, if_neg h]
theorem I0.fr {s t : yS} (h : I0 s) (F : frM (fun a i => a = 140 ∨ (a = 139 ∧ i = 2)) s t) : I0 t := by
  obtain ⟨hA, hw, hk, hp3, hp20, ⟨d0, d1, d2, d3, d6, d11, d12, d13, d14, d15, d16⟩, c2, c3, c4, c5, c11, c12, c124, c123, c136, c137, m5, m9, m88, m177, m178, m1781⟩ := h
  have K : ∀ {a i : Nat} {x : Int32}, sI s a i = x → ¬ (a = 140 ∨ (a = 139 ∧ i = 2)) → sI t a i = x := fun e n => (F.1 _ _ n).trans e
  exact ⟨hA.fr (fun i _ _ => F.2.2 _ _), fun w hw' => (F.2.1 _ _ (by omega)).trans (hw w hw'), fun k hk' => K (hk k hk') (by omega), ⟨K hp3.1 (by omega), K hp3.2 (by omega)⟩, ⟨K hp20.1 (by omega), K hp20.2 (by omega)⟩, ⟨K d0 (by omega), K d1 (by omega), K d2 (by omega), K d3 (by omega), K d6 (by omega), fun i hi => K (d11 i hi) (by omega), fun i hi => K (d12 i hi) (by omega), fun i hi => K (d13 i hi) (by omega), fun i hi => K (d14 i hi) (by omega), fun c hc => (F.2.1 _ _ (by omega)).trans (d15 c hc), fun c hc => (F.2.1 _ _ (by omega)).trans (d16 c hc)⟩, K c2 (by omega), K c3 (by omega), K c4 (by omega), K c5 (by omega), K c11 (by omega), K c12 (by omega), K c124 (by omega), K c123 (by omega), K c136 (by omega), fun k hk => K (c137 k hk) (by omega), K m5 (by omega), K m9 (by omega), K m88 (by omega), K m177 (by omega), K m178 (by omega), K m1781 (by omega)⟩
theorem st0_pol : pol0 st0 3 := by
  refine ⟨rfl, rfl, rfl, rfl, rfl, fun i hi => ?_, fun i hi => ?_, fun i hi => ?_, fun i hi => rfl, fun c hc => ?_, fun c hc => ?_⟩
  · show fL1 144 i = _
    unfold fL1; rw [if_pos hi]; rfl
  · show fL2 144 i = _
    unfold fL2; rw [if_pos hi]
  · show fL2 16 i = _
    unfold fL2; rw [if_pos hi]
  · show gP1 16 (c * 63) = 1
    unfold gP1; rw [if_pos (by omega)]
  · show gP2 16 c = 1
    unfold gP2; rw [if_pos hc]
theorem st0_ok : I0 st0 := by
  refine ⟨⟨Or.inl ⟨rfl, rfl⟩, rfl, rfl, rfl, rfl, rfl, Or.inl rfl, Or.inr (Or.inl rfl), Or.inr (Or.inr rfl), by decide, by decide, by decide⟩, fun w hw => tkF_ok w hw, fun k hk => ?_, ⟨rfl, rfl⟩, ⟨rfl, rfl⟩, st0_pol, rfl, rfl, rfl, rfl, rfl, rfl, rfl, rfl, rfl, fun k hk => rfl, rfl, rfl, rfl, rfl, rfl, rfl⟩
  show fK7 k = -1
  unfold fK7; rw [if_pos hk]
theorem B1_at : ∀ k, k < 19 → y_w245.getD k 0 = nI (B1 k) := by
  intro k hk
  have : ∀ k ∈ List.range 19, y_w245.getD k 0 = nI (B1 k) := by decide +kernel
  exact this k (List.mem_range.mpr hk)
theorem B1_lt (k : Nat) : B1 k < 256 := by
  unfold B1
  by_cases c : k < 19
  · have : ∀ k ∈ List.range 19, bs1.getD k 0 < 256 := by decide
    exact this k (List.mem_range.mpr c)
  · rw [List.getD_eq_getElem?_getD, List.getElem?_eq_none (by show 19 ≤ k; omega)]; decide


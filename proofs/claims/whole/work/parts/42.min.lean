/-! ===== PURE: sets that are alike ===== -/
def bis (D : Nat → Nat → Option Nat) (N : Nat) (R : Nat → Nat → Prop) : Prop := ∀ x y, R x y → ∀ b, b < N → (∀ x', D x b = some x' → ∃ y', D y b = some y' ∧ R x' y') ∧ (∀ y', D y b = some y' → ∃ x', D x b = some x' ∧ R x' y')
def eqv (D : Nat → Nat → Option Nat) (N : Nat) (x y : Nat) : Prop := ∃ R, bis D N R ∧ R x y
section
variable {D : Nat → Nat → Option Nat} {N : Nat}
theorem eqv_bis : bis D N (eqv D N) := by
  rintro x y ⟨R, hR, hxy⟩ b hb
  have := hR x y hxy b hb
  exact ⟨fun x' hx => let ⟨y', h1, h2⟩ := this.1 x' hx; ⟨y', h1, R, hR, h2⟩, fun y' hy => let ⟨x', h1, h2⟩ := this.2 y' hy; ⟨x', h1, R, hR, h2⟩⟩
theorem eqv_refl (x : Nat) : eqv D N x x := ⟨fun a b => a = b, fun a c h b hb => by subst h; exact ⟨fun a' h => ⟨a', h, rfl⟩, fun a' h => ⟨a', h, rfl⟩⟩, rfl⟩
theorem eqv_symm {x y : Nat} (h : eqv D N x y) : eqv D N y x := by
  obtain ⟨R, hR, hxy⟩ := h
  refine ⟨fun a b => R b a, fun a c h b hb => ?_, hxy⟩
  have := hR c a h b hb
  exact ⟨this.2, this.1⟩
theorem eqv_trans {x y z : Nat} (h : eqv D N x y) (k : eqv D N y z) : eqv D N x z := by
  refine ⟨fun a c => ∃ b, eqv D N a b ∧ eqv D N b c, fun a c h b hb => ?_, y, h, k⟩
  obtain ⟨e, h1, h2⟩ := h
  have b1 := eqv_bis a e h1 b hb
  have b2 := eqv_bis e c h2 b hb
  refine ⟨fun a' ha => ?_, fun c' hc => ?_⟩
  · obtain ⟨e', he, hr⟩ := b1.1 a' ha
    obtain ⟨c', hc, hr2⟩ := b2.1 e' he
    exact ⟨c', hc, e', hr, hr2⟩
  · obtain ⟨e', he, hr⟩ := b2.2 c' hc
    obtain ⟨a', ha, hr2⟩ := b1.2 e' he
    exact ⟨a', ha, e', hr2, hr⟩
end
def dv (o : Option Nat) : Int32 := match o with
  | none => -1
  | some t => nI t
theorem countP_lt {α : Type} {p q : α → Bool} : ∀ {l : List α}, (∀ x ∈ l, p x = true → q x = true) → (∃ x ∈ l, q x = true ∧ p x = false) → l.countP p < l.countP q
  | [], _, h => by obtain ⟨x, hx, _⟩ := h; simp at hx
  | a :: l, hm, h => by
    have hle : l.countP p ≤ l.countP q := List.countP_mono_left (fun x hx => hm x (by simp [hx]))
    rw [List.countP_cons, List.countP_cons]
    obtain ⟨x, hx, hq, hp⟩ := h
    rw [List.mem_cons] at hx
    rcases hx with hx | hx
    · subst hx; rw [hq, hp]; simp; omega
    · have := countP_lt (l := l) (fun y hy => hm y (by simp [hy])) ⟨x, hx, hq, hp⟩
      have h2 := hm a (by simp)
      cases hpa : p a
      · cases q a <;> simp <;> omega
      · rw [h2 hpa]; simp; omega
def mu (f : Nat → Int32) : Nat := (List.range 4096).countP (fun k => decide (f k = 0))
theorem mu_le {f g : Nat → Int32} (h : ∀ k, g k = 0 → f k = 0) : mu g ≤ mu f := by
  unfold mu; apply List.countP_mono_left
  intro k _ hk; simp at hk ⊢; exact h k hk
theorem mu_lt {f g : Nat → Int32} (h : ∀ k, g k = 0 → f k = 0) {i : Nat} (hi : i < 4096) (h1 : f i = 0) (h2 : g i ≠ 0) : mu g < mu f := by
  unfold mu; apply countP_lt
  · intro k _ hk; simp at hk ⊢; exact h k hk
  · exact ⟨i, List.mem_range.mpr hi, by simpa using h1, by simpa using h2⟩
section
variable {s : yS} {D : Nat → Nat → Option Nat} {M N : Nat}
/-- the reference's ways as D -/
def dwM (s : yS) (D : Nat → Nat → Option Nat) (M N : Nat) : Prop := M ≤ 63 ∧ N ≤ 512 ∧ (sI s 139 51) = nI M ∧ (sI s 139 47) = nI N ∧ ∀ k b, k < M → b < N → (sI s 171) (512 * k + b) = dv (D k b) ∧ ∀ t, D k b = some t → t < M
theorem dwM.fr {s' : yS} (h : dwM s D M N) (h1 : ∀ a i, (a = 139 ∧ (i = 47 ∨ i = 51)) ∨ a = 171 → sI s' a i = sI s a i) : dwM s' D M N :=
  ⟨h.1, h.2.1, (h1 _ _ (by omega)).trans h.2.2.1, (h1 _ _ (by omega)).trans h.2.2.2.1, fun k b hk hb => ⟨(h1 _ _ (by omega)).trans (h.2.2.2.2 k b hk hb).1, (h.2.2.2.2 k b hk hb).2⟩⟩
/-- two sets that a letter tells apart, as far as is known -/
def dif (f : Nat → Int32) (D : Nat → Nat → Option Nat) (N k j : Nat) : Prop := ∃ b, b < N ∧ ((D k b = none ∧ D j b ≠ none) ∨ (D k b ≠ none ∧ D j b = none) ∨ ∃ k' j', D k b = some k' ∧ D j b = some j' ∧ f (64 * k' + j') ≠ 0)
theorem k_differs {k j : Nat} {Q : Int32 → Prop} (h : dwM s D M N) (hk : k < M) (hj : j < M) (H1 : dif (sI s 172) D N k j → Q 1) (H0 : ¬ dif (sI s 172) D N k j → Q 0) : W_X12_differs s (nI k) (nI j) Q := by
  obtain ⟨hM, hN, h1, h2, h3⟩ := h
  unfold W_X12_differs
  intro P2 hP2
  suffices hL : ∀ (r b : Nat), b + r = N → (∀ b', b' < b → ¬ ((D k b' = none ∧ D j b' ≠ none) ∨ (D k b' ≠ none ∧ D j b' = none) ∨ ∃ k' j', D k b' = some k' ∧ D j b' = some j' ∧ (sI s 172) (64 * k' + j') ≠ 0)) → P2 (nI b) from hL N 0 (by omega) (fun b hb => by omega)
  intro r
  induction r with
  | zero =>
    intro b hb hno
    apply hP2
    rw [h2, nI_leU (by omega) (by omega)]
    refine ⟨fun _ => H0 ?_, fun hh => absurd (by omega) hh⟩
    rintro ⟨b', hb', hd⟩
    exact hno b' (by omega) hd
  | succ r ih =>
    intro b hb hno
    have hkb := h3 k b hk (by omega)
    have hjb := h3 j b hj (by omega)
    apply hP2
    rw [h2, nI_leU (by omega) (by omega), nI_mul, nI_mul, nI_addU, nI_addU, nI_ix (n := 512 * k + b) (by omega), nI_ix (n := 512 * j + b) (by omega), hkb.1, hjb.1]
    refine ⟨fun hh => absurd hh (by omega), fun _ => ⟨nI_inU (by omega) (by omega), ?_⟩⟩
    intro x3 e3
    refine ⟨nI_inU (by omega) (by omega), ?_⟩
    intro x5 e5
    subst e3; subst e5
    have yes : ((D k b = none ∧ D j b ≠ none) ∨ (D k b ≠ none ∧ D j b = none) ∨ ∃ k' j', D k b = some k' ∧ D j b = some j' ∧ (sI s 172) (64 * k' + j') ≠ 0) → Q 1 := fun hd => H1 ⟨b, by omega, hd⟩
    have nxt : ¬ ((D k b = none ∧ D j b ≠ none) ∨ (D k b ≠ none ∧ D j b = none) ∨ ∃ k' j', D k b = some k' ∧ D j b = some j' ∧ (sI s 172) (64 * k' + j') ≠ 0) → ∀ x8 : Int32, x8 = nI b + 1 → P2 x8 := by
      intro hd x8 e8
      subst e8; rw [nI_s]
      refine ih (b + 1) (by omega) (fun b' hb' => ?_)
      by_cases c : b' = b
      · subst c; exact hd
      · exact hno b' (by omega)
    intro P48 hP48
    cases hkd : D k b with
    | none =>
      rw [hkd] at hP48
      refine ⟨fun hh => absurd hh (by decide), fun _ => hP48 _ ?_⟩
      intro P58 hP58
      cases hjd : D j b with
      | none =>
        rw [hjd] at hP58
        refine ⟨fun hh => absurd hh (by decide), fun _ => hP58 _ ⟨fun hh => absurd rfl hh, fun _ => ?_⟩⟩
        intro P84 hP84
        refine ⟨fun _ => hP84 (nxt ?_), fun hh => absurd (by decide) hh⟩
        rw [hkd, hjd]; simp
      | some j' =>
        have hj' := hjb.2 j' hjd
        refine ⟨fun _ => hP58 _ ⟨fun _ => yes (Or.inl ⟨hkd, by rw [hjd]; simp⟩), fun hh => absurd hh (by decide)⟩, fun hh => absurd ?_ hh⟩
        show 0 ≤ nI j'
        rw [nI_0U, nI_leU (by omega) (by omega)]; omega
    | some k' =>
      have hk' := hkb.2 k' hkd
      have h0k : (0 : Int32) ≤ nI k' := by rw [nI_0U, nI_leU (by omega) (by omega)]; omega
      rw [hkd] at hP48
      refine ⟨fun _ => hP48 _ ?_, fun hh => absurd h0k hh⟩
      intro P58 hP58
      cases hjd : D j b with
      | none =>
        refine ⟨fun hh => absurd hh (by decide), fun _ => hP58 _ ⟨fun _ => yes (Or.inr (Or.inl ⟨by rw [hkd]; simp, hjd⟩)), fun hh => absurd hh (by decide)⟩⟩
      | some j' =>
        have hj' := hjb.2 j' hjd
        have h0j : (0 : Int32) ≤ nI j' := by rw [nI_0U, nI_leU (by omega) (by omega)]; omega
        rw [hjd] at hP58
        refine ⟨fun _ => hP58 _ ⟨fun hh => absurd rfl hh, fun _ => ?_⟩, fun hh => absurd h0j hh⟩
        intro P84 hP84
        have hnn : ¬ nI k' < 0 := nI_nneg (by omega)
        refine ⟨fun hh => absurd hh hnn, fun _ => ?_⟩
        rw [show dv (some k') = nI k' from rfl, show dv (some j') = nI j' from rfl, nI_mul, nI_addU, nI_ix (n := 64 * k' + j') (by omega)]
        refine ⟨nI_inU (by omega) (by omega), fun hz => hP84 (nxt ?_), fun hz => yes (Or.inr (Or.inr ⟨k', j', hkd, hjd, hz⟩))⟩
        rw [hkd, hjd]
        rintro (hh | hh | ⟨a, c, ha, hc, hne⟩)
        · exact absurd hh.1 (by simp)
        · exact absurd hh.2 (by simp)
        · cases ha; cases hc; exact hne hz
/-- what is told apart is not alike, and both ways -/
def apI (f : Nat → Int32) (D : Nat → Nat → Option Nat) (M N : Nat) : Prop := ∀ k j, k < M → j < M → (f (64 * k + j) ≠ 0 → ¬ eqv D N k j) ∧ (f (64 * k + j) = 0 ↔ f (64 * j + k) = 0)
theorem dif_no {f : Nat → Int32} (hi : apI f D M N) (hc : ∀ k b, k < M → b < N → ∀ t, D k b = some t → t < M) {k j : Nat} (hk : k < M) (hj : j < M) (h : dif f D N k j) : ¬ eqv D N k j := by
  intro he
  obtain ⟨b, hb, hd⟩ := h
  have hbis := eqv_bis k j he b hb
  rcases hd with ⟨h1, h2⟩ | ⟨h1, h2⟩ | ⟨k', j', h1, h2, h3⟩
  · cases hjd : D j b with
    | none => exact h2 hjd
    | some j' => obtain ⟨x, hx, _⟩ := hbis.2 j' hjd; rw [h1] at hx; exact absurd hx (by simp)
  · cases hkd : D k b with
    | none => exact h1 hkd
    | some k' => obtain ⟨x, hx, _⟩ := hbis.1 k' hkd; rw [h2] at hx; exact absurd hx (by simp)
  · obtain ⟨x, hx, hr⟩ := hbis.1 k' h1
    rw [h2] at hx
    cases hx
    exact (hi k' j' (hc k b hk hb k' h1) (hc j b hj hb j' h2)).1 h3 hr
theorem ap_fin {f : Nat → Int32} (hi : apI f D M N) (hc : ∀ k b, k < M → b < N → ∀ t, D k b = some t → t < M) (hst : ∀ k j, k < M → j < k → f (64 * k + j) = 0 → ¬ dif f D N k j) : ∀ k j, k < M → j < M → (f (64 * k + j) = 0 ↔ eqv D N k j) := by
  intro k j hk hj
  have hdiag : ∀ a, a < M → f (64 * a + a) = 0 := by
    intro a ha
    by_cases c : f (64 * a + a) = 0
    · exact c
    · exact absurd (eqv_refl a) ((hi a a ha ha).1 c)
  constructor
  · intro h
    refine ⟨fun a c => a < M ∧ c < M ∧ f (64 * a + c) = 0, fun a c hr b hb => ?_, hk, hj, h⟩
    obtain ⟨ha, hcM, hac⟩ := hr
    have hnd : ¬ dif f D N a c := by
      by_cases h1 : a = c
      · subst h1
        rintro ⟨b', hb', hd⟩
        rcases hd with ⟨h1, h2⟩ | ⟨h1, h2⟩ | ⟨k', j', h1, h2, h3⟩
        · exact h2 h1
        · exact h1 h2
        · rw [h1] at h2; cases h2; exact h3 (hdiag _ (hc a b' ha hb' _ h1))
      · by_cases h2 : c < a
        · exact hst a c ha h2 hac
        · have hca := (hi a c ha hcM).2.mp hac
          have hn := hst c a hcM (by omega) hca
          rintro ⟨b', hb', hd⟩
          apply hn
          refine ⟨b', hb', ?_⟩
          rcases hd with hd | hd | ⟨k', j', h1, h2, h3⟩
          · exact Or.inr (Or.inl ⟨hd.2, hd.1⟩)
          · exact Or.inl ⟨hd.2, hd.1⟩
          · refine Or.inr (Or.inr ⟨j', k', h2, h1, fun h0 => h3 ?_⟩)
            exact (hi k' j' (hc a b' ha hb' _ h1) (hc c b' hcM hb' _ h2)).2.mpr h0
    refine ⟨fun a' h1 => ?_, fun c' h1 => ?_⟩
    · cases h2 : D c b with
      | none => exact absurd ⟨b, hb, Or.inr (Or.inl ⟨by rw [h1]; simp, h2⟩)⟩ hnd
      | some c' =>
        refine ⟨c', rfl, hc a b ha hb a' h1, hc c b hcM hb c' h2, ?_⟩
        by_cases h3 : f (64 * a' + c') = 0
        · exact h3
        · exact absurd ⟨b, hb, Or.inr (Or.inr ⟨a', c', h1, h2, h3⟩)⟩ hnd
    · cases h2 : D a b with
      | none => exact absurd ⟨b, hb, Or.inl ⟨h2, by rw [h1]; simp⟩⟩ hnd
      | some a' =>
        refine ⟨a', rfl, hc a b ha hb a' h2, hc c b hcM hb c' h1, ?_⟩
        by_cases h3 : f (64 * a' + c') = 0
        · exact h3
        · exact absurd ⟨b, hb, Or.inr (Or.inr ⟨a', c', h2, h1, h3⟩)⟩ hnd
  · intro he
    by_cases h3 : f (64 * k + j) = 0
    · exact h3
    · exact absurd he ((hi k j hk hj).1 h3)
theorem k_tellApart {Q : yS → Prop} (h : dwM s D M N) (H : ∀ s', frM (fun a _ => a = 172) s s' → (∀ k j, k < M → j < M → ((sI s' 172) (64 * k + j) = 0 ↔ eqv D N k j)) → Q s') : W_X12_tellApart s Q := by
  obtain ⟨hM, hN, h1, h2, h3⟩ := h
  have h : dwM s D M N := ⟨hM, hN, h1, h2, h3⟩
  have hcl : ∀ k b, k < M → b < N → ∀ t, D k b = some t → t < M := fun k b hk hb => (h3 k b hk hb).2
  unfold W_X12_tellApart
  intro P2 hP2
  -- the rounds
  have main : ∀ s2 : yS, frM (fun a _ => a = 172) s s2 → (∀ k, k < 4096 → sI s2 172 k = 0) → ∀ P24 : Int32 → yS → Prop, (∀ (x3 : Int32) (s4 : yS), (((x3 = 0 → Q s4)
    ∧ (¬ x3 = 0 → ∀ P32 : Int32 → Int32 → yS → Prop, (∀ (x5 : Int32) (x6 : Int32) (s7 : yS), ((((sI s7 139 51) ≤ x6 → P24 x5 s7)
      ∧ (¬ (sI s7 139 51) ≤ x6 → ∀ P42 : Int32 → Int32 → yS → Prop, (∀ (x8 : Int32) (x9 : Int32) (s10 : yS), (((x6 ≤ x9 → ∀ x11 : Int32, x11 = (x6 + 1) → 
         P32 x8 x11 s10)
        ∧ (¬ x6 ≤ x9 → vp_in (((nI 64) * x6) + x9) 4096 ∧ 
         ∀ P96 : Int32 → yS → Prop, (∀ (x13 : Int32) (s14 : yS), (∀ x15 : Int32, x15 = (x9 + 1) → 
          P42 x13 x15 s14) → P96 x13 s14) → 
         ((¬ (sI s10 172 (ix (((nI 64) * x6) + x9))) = 0 → P96 x8 s10)
         ∧ ((sI s10 172 (ix (((nI 64) * x6) + x9))) = 0 → W_X12_differs s10 x6 x9 
          (fun r16 => ((r16 = 0 → P96 x8 s10)
          ∧ (¬ r16 = 0 → vp_in (((nI 64) * x6) + x9) 4096 ∧ ∀ s18 : yS, s18 = wI s10 172 (ix (((nI 64) * x6) + x9)) (vp_nar .boolean 1) → 
           vp_in (((nI 64) * x9) + x6) 4096 ∧ ∀ s20 : yS, s20 = wI s18 172 (ix (((nI 64) * x9) + x6)) (vp_nar .boolean 1) → 
           P96 1 s20)))))))) → P42 x8 x9 s10) → 
       P42 x5 0 s7))) → P32 x5 x6 s7) → 
     P32 0 0 s4))) → P24 x3 s4) → 
   P24 1 s2 := by
    intro s2 F2 z2 P24 hP24
    suffices hW : ∀ (u : Nat) (x3 : Int32) (s4 : yS), mu (sI s4 172) ≤ u → frM (fun a _ => a = 172) s s4 → apI (sI s4 172) D M N → (x3 = 0 → ∀ k j, k < M → j < k → sI s4 172 (64 * k + j) = 0 → ¬ dif (sI s4 172) D N k j) → P24 x3 s4 by
      refine hW (mu (sI s2 172)) 1 s2 (Nat.le_refl _) F2 (fun k j hk hj => ?_) (fun hh => absurd hh (by decide))
      rw [z2 _ (by omega), z2 _ (by omega)]; simp
    intro u
    induction u with
    | zero =>
      intro x3 s4 hu F4 I4 hst
      have d4 := h.fr (s' := s4) (fun a i ha => F4.1 _ _ (by omega))
      have nz : ∀ k, k < 4096 → sI s4 172 k ≠ 0 := by
        intro k hk h0
        have : mu (sI s4 172) ≠ 0 := by
          unfold mu
          rw [Ne, List.countP_eq_zero]
          intro hh; exact absurd (by simpa using h0) (hh k (List.mem_range.mpr hk))
        omega
      -- then there is nothing at all
      have hM0 : M = 0 := by
        by_cases c : M = 0
        · exact c
        · exact absurd (eqv_refl 0) ((I4 0 0 (by omega) (by omega)).1 (nz _ (by omega)))
      have fin : Q s4 := H s4 F4 (fun k j hk _ => by omega)
      apply hP24
      refine ⟨fun _ => fin, fun _ => ?_⟩
      intro P32 hP32
      apply hP32
      rw [d4.2.2.1, hM0]
      refine ⟨fun _ => hP24 _ _ ⟨fun _ => fin, fun hh => absurd rfl hh⟩, fun hh => absurd (by decide) hh⟩
    | succ u ih =>
      intro x3 s4 hu F4 I4 hst
      apply hP24
      refine ⟨fun h0 => H s4 F4 (ap_fin I4 hcl (hst h0)), fun _ => ?_⟩
      intro P32 hP32
      suffices hK : ∀ (r k : Nat) (x5 : Int32) (s7 : yS), k + r = M → frM (fun a _ => a = 172) s s7 → apI (sI s7 172) D M N → ((x5 = 0 ∧ (∀ i, sI s7 172 i = sI s4 172 i) ∧ ∀ k' j, k' < k → j < k' → sI s4 172 (64 * k' + j) = 0 → ¬ dif (sI s4 172) D N k' j) ∨ (x5 = 1 ∧ mu (sI s7 172) < mu (sI s4 172))) → P32 x5 (nI k) s7 from
        hK M 0 0 s4 (by omega) F4 I4 (Or.inl ⟨rfl, fun _ => rfl, fun k' j hk' => by omega⟩)
      intro r
      induction r with
      | zero =>
        intro k x5 s7 hk F7 I7 hx
        have d7 := h.fr (s' := s7) (fun a i ha => F7.1 _ _ (by omega))
        apply hP32
        rw [d7.2.2.1, nI_leU (by omega) (by omega)]
        refine ⟨fun _ => ?_, fun hh => absurd (by omega) hh⟩
        rcases hx with ⟨hx0, hsame, hno⟩ | ⟨hx1, hlt⟩
        · subst hx0
          have e : sI s7 172 = sI s4 172 := funext hsame
          apply hP24
          refine ⟨fun _ => H s7 F7 (ap_fin I7 hcl (fun k' j hk' hj h0 => ?_)), fun hh => absurd rfl hh⟩
          rw [e] at h0 ⊢; exact hno k' j (by omega) hj h0
        · subst hx1
          exact ih 1 s7 (by omega) F7 I7 (fun hh => absurd hh (by decide))
      | succ r ihr =>
        intro k x5 s7 hk F7 I7 hx
        have d7 := h.fr (s' := s7) (fun a i ha => F7.1 _ _ (by omega))
        apply hP32
        rw [d7.2.2.1, nI_leU (by omega) (by omega)]
        refine ⟨fun hh => absurd hh (by omega), fun _ => ?_⟩
        intro P42 hP42
        suffices hJ : ∀ (q j : Nat) (x8 : Int32) (s10 : yS), j + q = k → frM (fun a _ => a = 172) s s10 → apI (sI s10 172) D M N → ((x8 = 0 ∧ (∀ i, sI s10 172 i = sI s4 172 i) ∧ (∀ k' j', k' < k → j' < k' → sI s4 172 (64 * k' + j') = 0 → ¬ dif (sI s4 172) D N k' j') ∧ ∀ j', j' < j → sI s4 172 (64 * k + j') = 0 → ¬ dif (sI s4 172) D N k j') ∨ (x8 = 1 ∧ mu (sI s10 172) < mu (sI s4 172))) → P42 x8 (nI j) s10 by
          refine hJ k 0 x5 s7 (by omega) F7 I7 ?_
          rcases hx with ⟨a1, a2, a3⟩ | a1
          · exact Or.inl ⟨a1, a2, a3, fun j' hj' => by omega⟩
          · exact Or.inr a1
        intro q
        induction q with
        | zero =>
          intro j x8 s10 hj F10 I10 hx8
          apply hP42
          rw [nI_leU (by omega) (by omega)]
          refine ⟨fun _ => ?_, fun hh => absurd (by omega) hh⟩
          intro x11 e11; subst e11; rw [nI_s]
          refine ihr (k + 1) x8 s10 (by omega) F10 I10 ?_
          rcases hx8 with ⟨a1, a2, a3, a4⟩ | a1
          · refine Or.inl ⟨a1, a2, fun k' j' hk' hj' h0 => ?_⟩
            by_cases ck : k' = k
            · subst ck; exact a4 j' (by omega) h0
            · exact a3 k' j' (by omega) hj' h0
          · exact Or.inr a1
        | succ q ihq =>
          intro j x8 s10 hj F10 I10 hx8
          have d10 := h.fr (s' := s10) (fun a i ha => F10.1 _ _ (by omega))
          apply hP42
          rw [nI_leU (by omega) (by omega), nI_mul, nI_addU, nI_mul, nI_addU, nI_ix (n := 64 * k + j) (by omega), nI_ix (n := 64 * j + k) (by omega), nar_1]
          refine ⟨fun hh => absurd hh (by omega), fun _ => ⟨nI_inU (by omega) (by omega), ?_⟩⟩
          intro P96 hP96
          have same : (sI s10 172 (64 * k + j) = 0 → ¬ dif (sI s10 172) D N k j) → P96 x8 s10 := by
            intro hnd
            apply hP96
            intro x15 e15; subst e15; rw [nI_s]
            refine ihq (j + 1) x8 s10 (by omega) F10 I10 ?_
            rcases hx8 with ⟨a1, a2, a3, a4⟩ | a1
            · refine Or.inl ⟨a1, a2, a3, fun j' hj' h0 => ?_⟩
              by_cases cj : j' = j
              · subst cj
                have e : sI s10 172 = sI s4 172 := funext a2
                rw [e] at hnd; exact hnd h0
              · exact a4 j' (by omega) h0
            · exact Or.inr a1
          refine ⟨fun hne => same (fun h0 => absurd h0 hne), fun h0 => k_differs d10 (by omega) (by omega) (fun hd => ⟨fun hh => absurd hh (by decide), fun _ => ⟨nI_inU (by omega) (by omega), ?_⟩⟩) (fun hnd => ⟨fun _ => same (fun _ => hnd), fun hh => absurd rfl hh⟩)⟩
          intro s18 e18
          refine ⟨nI_inU (by omega) (by omega), ?_⟩
          intro s20 e20
          have hv : ∀ i, sI s20 172 i = if i = 64 * k + j ∨ i = 64 * j + k then 1 else sI s10 172 i := by
            intro i
            subst e20; subst e18
            rw [sI_w, sI_w]
            by_cases c1 : i = 64 * j + k
            · rw [if_pos ⟨rfl, c1⟩, if_pos (Or.inr c1)]
            · by_cases c2 : i = 64 * k + j
              · rw [if_neg (by omega), if_pos ⟨rfl, c2⟩, if_pos (Or.inl c2)]
              · rw [if_neg (by omega), if_neg (by omega), if_neg (by omega)]
          have hneqv := dif_no I10 hcl (by omega) (by omega) hd
          have hlt : mu (sI s20 172) < mu (sI s10 172) := by
            refine mu_lt (fun i hi => ?_) (i := 64 * k + j) (by omega) h0 ?_
            · rw [hv] at hi
              split at hi
              · exact absurd hi (by decide)
              · exact hi
            · rw [hv, if_pos (Or.inl rfl)]; decide
          have hle : mu (sI s10 172) ≤ mu (sI s4 172) := by
            rcases hx8 with ⟨a1, a2, _⟩ | a1
            · have e : sI s10 172 = sI s4 172 := funext a2
              rw [e]; exact Nat.le_refl _
            · omega
          apply hP96
          intro x15 e15; subst e15; rw [nI_s]
          refine ihq (j + 1) 1 s20 (by omega) (by subst e20; subst e18; exact (F10.wI rfl).wI rfl) (fun k' j' hk' hj' => ?_) (Or.inr ⟨rfl, by omega⟩)
          have hI := I10 k' j' hk' hj'
          rw [hv, hv]
          by_cases c1 : 64 * k' + j' = 64 * k + j ∨ 64 * k' + j' = 64 * j + k
          · rw [if_pos c1, if_pos (by omega)]
            refine ⟨fun _ => ?_, Iff.rfl⟩
            rcases c1 with c1 | c1
            · have e1 : k' = k := by omega
              have e2 : j' = j := by omega
              subst e1; subst e2; exact hneqv
            · have e1 : k' = j := by omega
              have e2 : j' = k := by omega
              subst e1; subst e2; exact fun he => hneqv (eqv_symm he)
          · rw [if_neg c1, if_neg (by omega)]; exact hI
  -- all are nought first
  suffices hF : ∀ (r k : Nat) (s2 : yS), k + r = 4096 → frM (fun a _ => a = 172) s s2 → (∀ i, i < k → sI s2 172 i = 0) → P2 (nI k) s2 from hF 4096 0 s (by omega) frM.rfl' (fun i hi => by omega)
  intro r
  induction r with
  | zero =>
    intro k s2 hk F2 z2
    have hk4 : k = 4096 := by omega
    subst hk4
    apply hP2
    exact ⟨fun _ => main s2 F2 z2, fun hh => absurd (by decide) hh⟩
  | succ r ih =>
    intro k s2 hk F2 z2
    apply hP2
    rw [nI_leU (by omega) (by omega), nI_ix (n := k) (by omega), nar_0]
    refine ⟨fun hh => absurd hh (by omega), fun _ => ⟨nI_inU (by omega) (by omega), ?_⟩⟩
    intro s22 e22 x23 e23
    subst e23; rw [nI_s]
    refine ih (k + 1) s22 (by omega) (by subst e22; exact F2.wI rfl) (fun i hi => ?_)
    subst e22
    by_cases c : i = k
    · subst c; rw [sI_w, if_pos ⟨rfl, rfl⟩]
    · rw [sI_w, if_neg (by omega)]; exact z2 i (by omega)
end

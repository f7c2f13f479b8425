/-! ===== PURE: what calls do, in sum ===== -/
def rcO (x : Int64) (T : Nat → Nat → Option Nat) (q lo hi : Nat) : Prop := ∀ t, bJ x t = true ↔ ∃ b, lo ≤ b ∧ b < hi ∧ T q b = some t
def styO (T : Nat → Nat → Option Nat) (q lo hi : Nat) : Prop := ∀ b, lo ≤ b → b < hi → T q b = some q
theorem rcO_0 {T : Nat → Nat → Option Nat} {q lo : Nat} : rcO 0 T q lo lo := fun t => by
  rw [bJ_0]; exact ⟨fun h => absurd h (by decide), fun ⟨b, h1, h2, _⟩ => by omega⟩
theorem rcO_s {x : Int64} {T : Nat → Nat → Option Nat} {q lo hi n : Nat} (h : rcO x T q lo hi) (hl : lo ≤ hi) (hn : n ≤ 64) (hT : ∀ t, T q hi = some t → t < n) : rcO (x ||| (match T q hi with
    | none => 0
    | some t => 1 <<< ((nI t).toInt64 &&& 63))) T q lo (hi + 1) := by
  intro t
  rw [bJ_or, Bool.or_eq_true, h t]
  cases hd : T q hi with
  | none =>
    rw [show bJ (match (none : Option Nat) with
      | none => (0 : Int64)
      | some t => 1 <<< ((nI t).toInt64 &&& 63)) t = false from bJ_0 t]
    constructor
    · rintro (⟨b, h1, h2, h3⟩ | h)
      · exact ⟨b, h1, by omega, h3⟩
      · exact absurd h (by decide)
    · rintro ⟨b, h1, h2, h3⟩
      by_cases c : b = hi
      · subst c; rw [hd] at h3; exact absurd h3 (by simp)
      · exact Or.inl ⟨b, h1, by omega, h3⟩
  | some u =>
    have hu := hT u hd
    rw [show bJ (match (some u : Option Nat) with
      | none => (0 : Int64)
      | some t => 1 <<< ((nI t).toInt64 &&& 63)) t = decide (t = u) from bJ_one (by omega)]
    rw [decide_eq_true_eq]
    constructor
    · rintro (⟨b, h1, h2, h3⟩ | h)
      · exact ⟨b, h1, by omega, h3⟩
      · subst h; exact ⟨hi, hl, by omega, hd⟩
    · rintro ⟨b, h1, h2, h3⟩
      by_cases c : b = hi
      · subst c; rw [hd] at h3; cases h3; exact Or.inr rfl
      · exact Or.inl ⟨b, h1, by omega, h3⟩
theorem styO_s {T : Nat → Nat → Option Nat} {q lo hi : Nat} (hl : lo ≤ hi) : styO T q lo (hi + 1) ↔ styO T q lo hi ∧ T q hi = some q := by
  constructor
  · intro h; exact ⟨fun b h1 h2 => h b h1 (by omega), h hi hl (by omega)⟩
  · rintro ⟨h1, h2⟩ b hb1 hb2
    by_cases c : b = hi
    · subst c; exact h2
    · exact h1 b hb1 (by omega)
section
variable {s : yS} {p : Nat} {T : Nat → Nat → Option Nat} {n N : Nat}
theorem dv_is {o : Option Nat} {n q : Nat} (hn : n ≤ 63) (h : ∀ t, o = some t → t < n) (hq : q < n) : (dv o = nI q ↔ o = some q) ∧ (dv o = -1 ↔ o = none) := by
  cases o with
  | none => exact ⟨⟨fun hh => absurd hh.symm (nI_ne1 (n := q) (by omega)), fun hh => absurd hh (by simp)⟩, ⟨fun _ => rfl, fun _ => rfl⟩⟩
  | some t =>
    have := h t rfl
    refine ⟨?_, ⟨fun hh => absurd hh (nI_ne1 (n := t) (by omega)), fun hh => absurd hh (by simp)⟩⟩
    show nI t = nI q ↔ _
    rw [nI_inj (by omega) (by omega)]; simp
/-! the other one -/
def smS (s : yS) (p : Nat) (ps : PS) (T : Nat → Nat → Option Nat) (n C : Nat) : Prop := ∀ c, c < C → ∀ q, q < n → rcO ((sJ s (p + 15)) (c * 63 + q)) T q (offs ps c) (offs ps (c + 1)) ∧ (bJ ((sJ s (p + 16)) c) q = true ↔ styO T q (offs ps c) (offs ps (c + 1)))
def dSu (p a _i : Nat) : Prop := a = p + 15 ∨ a = p + 16
theorem c_sumUp {ps : PS} {c : Nat} {Q : yS → Prop} (hm : smC s p) (hlt : ltF s p ps) (ht : tyC s p T n (offs ps 16)) (hc : c < 16) (hS : smS s p ps T n c) (H : ∀ s', frM (dSu p) s s' → (∀ a, sI s' a = sI s a) → smS s' p ps T n (c + 1) → Q s') : W_X7_sumUp s (nI c) Q := by
  obtain ⟨h0, hn, hN, h1, h2⟩ := ht
  have hp3 := hm.1
  have hoc : offs ps c ≤ offs ps (c + 1) := offs_mono ps (by omega)
  have ho16 : offs ps (c + 1) ≤ offs ps 16 := offs_mono ps (by omega)
  have f1 : sI s (p + 13) c = nI (offs ps c) := hlt.2.1.1 c (by omega)
  have f2 : sI s (p + 13) (c + 1) = nI (offs ps (c + 1)) := hlt.2.1.1 (c + 1) (by omega)
  unfold W_X7_sumUp
  intro P5 hP5
  suffices hL : ∀ (r q : Nat) (x1 : Int64) (s3 : yS), q + r = n → frM (dSu p) s s3 → (∀ a, sI s3 a = sI s a) → (∀ c', c' < c → sJ s3 (p + 16) c' = sJ s (p + 16) c') → (∀ c' j, c' < c → j < n → sJ s3 (p + 15) (c' * 63 + j) = sJ s (p + 15) (c' * 63 + j)) → (∀ j, j < q → rcO (sJ s3 (p + 15) (c * 63 + j)) T j (offs ps c) (offs ps (c + 1))) → (∀ j, j < n → (bJ x1 j = true ↔ j < q ∧ styO T j (offs ps c) (offs ps (c + 1)))) → P5 x1 (nI q) s3 from
    hL n 0 0 s (by omega) frM.rfl' (fun _ => rfl) (fun _ _ => rfl) (fun _ _ _ _ => rfl) (fun j hj => by omega) (fun j hj => by rw [bJ_0]; exact ⟨fun h => absurd h (by decide), fun h => absurd h.1 (by omega)⟩)
  intro r
  induction r with
  | zero =>
    intro q x1 s3 hq F3 i3 y3 r3 w3 b3
    have hqn : q = n := by omega
    subst hqn
    have m3 : sR s3 103 0 = p + 1 := (F3.2.2 _ _).trans hm.2
    apply hP5
    refine ⟨p, m3, hm.kd, ?_⟩
    rw [i3, h1, nI_leU (by omega) (by omega), nI_ix (n := c) (by omega)]
    refine ⟨fun _ => ⟨p, m3, hm.kd, nI_inU (by omega) (by omega), ?_⟩, fun hh => absurd (by omega) hh⟩
    intro s7 e7
    refine H s7 (by subst e7; exact F3.wJ (by unfold dSu; omega)) (fun a => by subst e7; exact i3 a) (fun c' hc' j hj => ?_)
    by_cases cc : c' = c
    · subst cc
      refine ⟨?_, ?_⟩
      · subst e7; rw [sJ_w, if_neg (by omega)]; exact w3 j hj
      · subst e7; rw [sJ_w, if_pos ⟨rfl, rfl⟩, b3 j hj]; exact ⟨fun h => h.2, fun h => ⟨hj, h⟩⟩
    · have := hS c' (by omega) j hj
      refine ⟨?_, ?_⟩
      · subst e7; rw [sJ_w, if_neg (by omega), r3 c' j (by omega) hj]; exact this.1
      · subst e7; rw [sJ_w, if_neg (by omega), y3 c' (by omega)]; exact this.2
  | succ r ih =>
    intro q x1 s3 hq F3 i3 y3 r3 w3 b3
    have m3 : sR s3 103 0 = p + 1 := (F3.2.2 _ _).trans hm.2
    apply hP5
    refine ⟨p, m3, hm.kd, ?_⟩
    rw [i3, h1, nI_leU (by omega) (by omega)]
    refine ⟨fun hh => absurd hh (by omega), fun _ => ⟨p, m3, hm.kd, ?_⟩⟩
    have f2' : sI s3 (p + 10 + 3) (c + 1) = nI (offs ps (c + 1)) := by rw [i3, show p + 10 + 3 = p + 13 by omega]; exact f2
    unfold W_X1_firstOf
    rw [i3, show p + 10 + 3 = p + 13 by omega, nI_ix (n := c) (by omega), f1]
    refine ⟨nI_inU (by omega) (by omega), ?_⟩
    intro P36 hP36
    suffices hA : ∀ (k a : Nat) (x10 : Int64) (x11 : Int32), a + k = offs ps (c + 1) → offs ps c ≤ a → rcO x10 T q (offs ps c) a → (x11 = 0 ∨ x11 = 1) → (x11 ≠ 0 ↔ styO T q (offs ps c) a) → P36 x10 x11 (nI a) from
      hA (offs ps (c + 1) - offs ps c) (offs ps c) 0 1 (by omega) (by omega) rcO_0 (Or.inr rfl) ⟨fun _ b hb1 hb2 => by omega, fun _ => by decide⟩
    intro k
    induction k with
    | zero =>
      intro a x10 x11 ha hla hr hz hs
      have hae : a = offs ps (c + 1) := by omega
      apply hP36
      refine ⟨p, m3, hm.kd, ?_⟩
      rw [nI_s, nI_ix (n := c + 1) (by omega), f2']
      refine ⟨nI_inU (by omega) (by omega), ?_⟩
      refine ⟨fun _ => ⟨p, m3, hm.kd, ?_⟩, fun hh => absurd ((nI_leU (a := offs ps (c + 1)) (b := a) (by omega) (by omega)).mpr (by omega)) hh⟩
      rw [nI_mul, nI_addU, nI_ix (n := c * 63 + q) (by omega)]
      refine ⟨nI_inU (by omega) (by omega), ?_⟩
      intro s17 e17 P148 hP148
      have go : ∀ y18 : Int64, (∀ j, j < n → (bJ (x1 ||| y18) j = true ↔ j < q + 1 ∧ styO T j (offs ps c) (offs ps (c + 1)))) → P148 y18 := by
        intro y18 hy
        apply hP148
        intro x19 e19 x20 e20
        subst e20; rw [nI_s]
        subst e19
        refine ih (q + 1) _ s17 (by omega) (by subst e17; exact F3.wJ (by unfold dSu; omega)) (fun a => by subst e17; exact i3 a) (fun c' hc' => by subst e17; rw [sJ_w, if_neg (by omega)]; exact y3 c' hc') (fun c' j hc' hj => by subst e17; rw [sJ_w, if_neg (by omega)]; exact r3 c' j hc' hj) (fun j hj => ?_) hy
        subst e17
        by_cases cj : j = q
        · subst cj; rw [sJ_w, if_pos ⟨rfl, rfl⟩, ← hae]; exact hr
        · rw [sJ_w, if_neg (by omega)]; exact w3 j (by omega)
      rw [hae] at hs
      refine ⟨fun hx => go 0 (fun j hj => ?_), fun hx => go _ (fun j hj => ?_)⟩
      · rw [bJ_or, bJ_0, Bool.or_false, b3 j hj]
        constructor
        · rintro ⟨h1, h2⟩; exact ⟨by omega, h2⟩
        · rintro ⟨h1, h2⟩
          by_cases cj : j = q
          · subst cj; exact absurd hx (hs.mpr h2)
          · exact ⟨by omega, h2⟩
      · rw [bJ_or, bJ_one (by omega), Bool.or_eq_true, b3 j hj, decide_eq_true_eq]
        constructor
        · rintro (⟨h1, h2⟩ | h)
          · exact ⟨by omega, h2⟩
          · subst h; exact ⟨by omega, hs.mp hx⟩
        · rintro ⟨h1, h2⟩
          by_cases cj : j = q
          · exact Or.inr cj
          · exact Or.inl ⟨by omega, h2⟩
    | succ k ihk =>
      intro a x10 x11 ha hla hr hz hs
      have hta := h2 q a (by omega) (by omega)
      have hdv := dv_is hn hta.2 (q := q) (by omega)
      apply hP36
      refine ⟨p, m3, hm.kd, ?_⟩
      rw [nI_s, nI_ix (n := c + 1) (by omega), f2']
      refine ⟨nI_inU (by omega) (by omega), ?_⟩
      refine ⟨fun hh => absurd ((nI_leU (a := offs ps (c + 1)) (b := a) (by omega) (by omega)).mp hh) (by omega), fun _ => ⟨p, m3, hm.kd, ?_⟩⟩
      rw [nI_mul, nI_addU, nI_ix (n := q * 512 + a) (by omega), i3 (p + 14), hta.1]
      refine ⟨nI_inU (by omega) (by omega), ?_⟩
      intro x23 e23
      subst e23
      rw [hdv.1, hdv.2]
      intro P89 hP89
      have go : ∀ y24 : Int64, rcO (x10 ||| y24) T q (offs ps c) (a + 1) → P89 y24 := by
        intro y24 hy
        apply hP89
        intro x25 e25 P109 hP109
        subst e25
        have go2 : ∀ y26 : Int32, (y26 = 0 ∨ y26 = 1) → (y26 ≠ 0 ↔ styO T q (offs ps c) (a + 1)) → P109 y26 := by
          intro y26 hz2 hs2
          apply hP109
          intro x27 e27; subst e27; rw [nI_s]
          exact ihk (a + 1) _ y26 (by omega) (by omega) hy hz2 hs2
        rw [styO_s hla] at go2
        refine ⟨fun hx => go2 0 (Or.inl rfl) ⟨fun h => absurd rfl h, fun h => absurd hx (hs.mpr h.1)⟩, fun hx => ⟨fun hne => go2 0 (Or.inl rfl) ⟨fun h => absurd rfl h, fun h => absurd h.2 hne⟩, fun he => go2 1 (Or.inr rfl) ⟨fun _ => ⟨hs.mp hx, he⟩, fun _ => by decide⟩⟩⟩
      have hst := rcO_s hr hla (n := n) (by omega) hta.2
      refine ⟨fun hne => ?_, fun he => ?_⟩
      · cases hd : T q a with
        | none => exact absurd hd hne
        | some t => rw [hd] at hst; exact go _ hst
      · rw [he] at hst; exact go _ hst
/-! the reference -/
theorem k_goes {q a : Nat} {Q : Int32 → Prop} (h : tyM s T n N) (hq : q < n) (ha : a < N) (H : Q (dv (T q a))) : W_X12_goes s (nI q) (nI a) Q := by
  obtain ⟨h0, hn, hN, h1, h2, h3⟩ := h
  obtain ⟨x, hx, e1, e2⟩ := h3 q hq
  have e3 := e2 a ha
  unfold W_X12_goes
  rw [nI_ix (n := q) (by omega), e1, nI_mul, nI_addU, nI_ix (n := 512 * x + a) (by omega)]
  refine ⟨nI_inU (by omega) (by omega), nI_inU (by omega) (by omega), ?_⟩
  intro x3 ex3
  cases hd : T q a with
  | none =>
    rw [hd] at e3 H
    rw [e3] at ex3; subst ex3
    exact ⟨fun hh => absurd hh (by decide), fun _ => H⟩
  | some t =>
    rw [hd] at e3 H
    obtain ⟨ht, y, hy, e4, e5⟩ := e3
    rw [e4] at ex3; subst ex3
    rw [nI_ix (n := y) (by omega), e5]
    exact ⟨fun _ => ⟨nI_inU (by omega) (by omega), H⟩, fun hh => absurd (nI_ge0 (by omega)) hh⟩
theorem offs_uni {ps : PS} {c c' a : Nat} (h1 : offs ps c ≤ a) (h2 : a < offs ps (c + 1)) (h3 : offs ps c' ≤ a) (h4 : a < offs ps (c' + 1)) : c = c' := by
  rcases Nat.lt_trichotomy c c' with h | h | h
  · have := offs_mono ps (j := c + 1) (k := c') (by omega); omega
  · exact h
  · have := offs_mono ps (j := c' + 1) (k := c) (by omega); omega
/-- the sums of the reference, behind state q and letter a -/
def smM (s : yS) (ps : PS) (T : Nat → Nat → Option Nat) (n q a : Nat) : Prop := ∀ c, c < 16 → ∀ j, j < n → (∀ t, bJ ((sJ s 201) (64 * c + j)) t = true ↔ ∃ b, offs ps c ≤ b ∧ b < offs ps (c + 1) ∧ (j < q ∨ j = q ∧ b < a) ∧ T j b = some t) ∧ ((sI s 202) (64 * c + j) = 0 ∨ (sI s 202) (64 * c + j) = 1) ∧ ((sI s 202) (64 * c + j) ≠ 0 ↔ ∀ b, offs ps c ≤ b → b < offs ps (c + 1) → (j < q ∨ j = q ∧ b < a) → T j b = some j)
def smF (s : yS) (ps : PS) (T : Nat → Nat → Option Nat) (n : Nat) : Prop := ∀ c, c < 16 → ∀ j, j < n → rcO ((sJ s 201) (64 * c + j)) T j (offs ps c) (offs ps (c + 1)) ∧ ((sI s 202) (64 * c + j) = 0 ∨ (sI s 202) (64 * c + j) = 1) ∧ ((sI s 202) (64 * c + j) ≠ 0 ↔ styO T j (offs ps c) (offs ps (c + 1)))
def dGa (a _i : Nat) : Prop := a = 200 ∨ a = 201 ∨ a = 202
theorem k_gather {ps : PS} {Q : yS → Prop} (ht : tyM s T n (offs ps 16)) (hl : ltM s ps 16 0) (H : ∀ s', frM dGa s s' → smF s' ps T n → (sI s' 200) 0 = 0 → (sI s' 200) 1 = 0 → Q s') : W_X12_gather s Q := by
  obtain ⟨h0, hn, hN, h1, h2, h3⟩ := ht
  have ht : tyM s T n (offs ps 16) := ⟨h0, hn, hN, h1, h2, h3⟩
  unfold W_X12_gather
  intro P2 hP2
  suffices hZ : ∀ (r k : Nat) (s2 : yS), k + r = 1024 → frM dGa s s2 → (∀ j, j < k → (sJ s2 201) j = 0 ∧ (sI s2 202) j = 1) → P2 (nI k) s2 from hZ 1024 0 s (by omega) frM.rfl' (fun j hj => by omega)
  intro r
  induction r with
  | succ r ih =>
    intro k s2 hk F2 z2
    apply hP2
    rw [nI_leU (by omega) (by omega), nI_ix (n := k) (by omega)]
    refine ⟨fun hh => absurd hh (by omega), fun _ => ⟨nI_inU (by omega) (by omega), ?_⟩⟩
    intro s25 e25
    refine ⟨nI_inU (by omega) (by omega), ?_⟩
    intro s27 e27 x28 e28
    subst e28; rw [nI_s]
    refine ih (k + 1) s27 (by omega) (by subst e27; subst e25; exact (F2.wJ (by unfold dGa; omega)).wI (by unfold dGa; omega)) (fun j hj => ?_)
    subst e27; subst e25
    by_cases c : j = k
    · subst c; refine ⟨?_, by rw [sI_w, if_pos ⟨rfl, rfl⟩]; rfl⟩
      show sJ (wJ s2 201 j 0) 201 j = 0
      rw [sJ_w, if_pos ⟨rfl, rfl⟩]
    · have := z2 j (by omega)
      refine ⟨?_, by rw [sI_w, if_neg (by omega)]; exact this.2⟩
      show sJ (wJ s2 201 k 0) 201 j = 0
      rw [sJ_w, if_neg (by omega)]; exact this.1
  | zero =>
    intro k s2 hk F2 z2
    apply hP2
    rw [nI_leU (by omega) (by omega)]
    refine ⟨fun _ => ?_, fun hh => absurd (by omega) hh⟩
    intro P31 hP31
    suffices hL : ∀ (r q : Nat) (s4 : yS), q + r = n → frM dGa s s4 → smM s4 ps T n q 0 → P31 (nI q) s4 from
      hL n 0 s2 (by omega) F2 (fun c hc j hj => by
        have := z2 (64 * c + j) (by omega)
        rw [this.1, this.2]
        refine ⟨fun t => ?_, Or.inr rfl, ⟨fun _ b _ _ hh => by omega, fun _ => by decide⟩⟩
        rw [bJ_0]; exact ⟨fun h => absurd h (by decide), fun ⟨b, _, _, hh, _⟩ => by omega⟩)
    intro r
    induction r with
    | zero =>
      intro q s4 hq F4 M4
      apply hP31
      rw [F4.1 139 56 (by unfold dGa; omega), h1, nI_leU (by omega) (by omega)]
      refine ⟨fun _ => ⟨nI_inU (a := 0) (by omega) (by omega), ?_⟩, fun hh => absurd (by omega) hh⟩
      intro s6 e6
      refine ⟨nI_inU (a := 1) (by omega) (by omega), ?_⟩
      intro s8 e8
      refine H s8 (by subst e8; subst e6; exact (F4.wI (by unfold dGa; omega)).wI (by unfold dGa; omega)) (fun c hc j hj => ?_) ?_ ?_
      · have M := M4 c hc j hj
        have e1 : sJ s8 201 (64 * c + j) = sJ s4 201 (64 * c + j) := by subst e8; subst e6; rfl
        have e2 : sI s8 202 (64 * c + j) = sI s4 202 (64 * c + j) := by subst e8; subst e6; rw [sI_w, if_neg (by omega), sI_w, if_neg (by omega)]
        rw [e1, e2]
        refine ⟨fun t => ?_, M.2.1, ?_⟩
        · rw [M.1 t]
          exact ⟨fun ⟨b, h1, h2, _, h4⟩ => ⟨b, h1, h2, h4⟩, fun ⟨b, h1, h2, h4⟩ => ⟨b, h1, h2, by omega, h4⟩⟩
        · rw [M.2.2]
          exact ⟨fun h b h1 h2 => h b h1 h2 (by omega), fun h b h1 h2 _ => h b h1 h2⟩
      · subst e8; subst e6; rw [sI_w, if_neg (by decide), sI_w, if_pos ⟨rfl, rfl⟩]; rfl
      · subst e8; rw [sI_w, if_pos ⟨rfl, rfl⟩]; rfl
    | succ r ih =>
      intro q s4 hq F4 M4
      apply hP31
      rw [F4.1 139 56 (by unfold dGa; omega), h1, nI_leU (by omega) (by omega)]
      refine ⟨fun hh => absurd hh (by omega), fun _ => ?_⟩
      intro P41 hP41
      suffices hA : ∀ (k a : Nat) (s10 : yS), a + k = offs ps 16 → frM dGa s s10 → smM s10 ps T n q a → P41 (nI a) s10 from
        hA (offs ps 16) 0 s4 (by omega) F4 M4
      intro k
      induction k with
      | zero =>
        intro a s10 ha F10 M10
        apply hP41
        rw [F10.1 139 47 (by unfold dGa; omega), h2, nI_leU (by omega) (by omega)]
        refine ⟨fun _ => ?_, fun hh => absurd (by omega) hh⟩
        intro x11 e11; subst e11; rw [nI_s]
        refine ih (q + 1) s10 (by omega) F10 (fun c hc j hj => ?_)
        have ho16 : offs ps (c + 1) ≤ offs ps 16 := offs_mono ps (by omega)
        have M := M10 c hc j hj
        refine ⟨fun t => ?_, M.2.1, ?_⟩
        · rw [M.1 t]
          exact ⟨fun ⟨b, h1, h2, h3, h4⟩ => ⟨b, h1, h2, by omega, h4⟩, fun ⟨b, h1, h2, h3, h4⟩ => ⟨b, h1, h2, by omega, h4⟩⟩
        · rw [M.2.2]
          exact ⟨fun h b h1 h2 h3 => h b h1 h2 (by omega), fun h b h1 h2 h3 => h b h1 h2 (by omega)⟩
      | succ k ihk =>
        intro a s10 ha F10 M10
        obtain ⟨c0, i0, hc0, hi0, ha0⟩ := let_of (ps := ps) (a := a) (by omega)
        have ho1 : offs ps (c0 + 1) = offs ps c0 + nLet ps c0 := rfl
        have hcall := (hl.2 c0 i0 (Or.inl ⟨hc0, hi0⟩)).1
        have t10 : tyM s10 T n (offs ps 16) := ⟨h0, hn, hN, (F10.1 139 56 (by unfold dGa; omega)).trans h1, (F10.1 139 47 (by unfold dGa; omega)).trans h2, fun q hq => by
          obtain ⟨x, hx, e1, e2⟩ := h3 q hq
          refine ⟨x, hx, (F10.1 174 _ (by unfold dGa; omega)).trans e1, fun a ha => ?_⟩
          have e3 := e2 a ha
          rw [F10.1 171 _ (by unfold dGa; omega)]
          cases hd : T q a with
          | none => rw [hd] at e3; exact e3
          | some t =>
            rw [hd] at e3
            obtain ⟨ht, y, hy, e4, e5⟩ := e3
            exact ⟨ht, y, hy, e4, (F10.1 173 _ (by unfold dGa; omega)).trans e5⟩⟩
        have hTn : ∀ t, T q a = some t → t < n := by
          intro t hd
          obtain ⟨x, hx, e1, e2⟩ := h3 q (by omega)
          have e3 := e2 a (by omega)
          rw [hd] at e3; exact e3.1
        have hdv := dv_is hn hTn (q := q) (by omega)
        have hng := dv_neg hn hTn
        apply hP41
        rw [F10.1 139 47 (by unfold dGa; omega), h2, nI_leU (by omega) (by omega), nI_ix (n := a) (by omega), F10.1 165 _ (by unfold dGa; omega)]
        refine ⟨fun hh => absurd hh (by omega), fun _ => ⟨nI_inU (by omega) (by omega), ?_⟩⟩
        rw [ha0, hcall, nI_mul, nI_addU, ← ha0]
        intro x13 e13
        subst e13
        refine k_goes t10 (by omega) (by omega) ?_
        rw [nI_ix (n := 64 * c0 + q) (by omega), hdv.1, hng.2]
        refine ⟨nI_inU (by omega) (by omega), ?_⟩
        intro P89 hP89
        have M := M10 c0 hc0 q (by omega)
        have go : ∀ y16 : Int64, (∀ t, bJ (sJ s10 201 (64 * c0 + q) ||| y16) t = true ↔ ∃ b, offs ps c0 ≤ b ∧ b < offs ps (c0 + 1) ∧ (q < q ∨ q = q ∧ b < a + 1) ∧ T q b = some t) → P89 y16 := by
          intro y16 hy
          apply hP89
          refine ⟨nI_inU (by omega) (by omega), ?_⟩
          intro s18 e18
          refine ⟨nI_inU (by omega) (by omega), ?_⟩
          intro P116 hP116
          have e18b : sI s18 202 (64 * c0 + q) = sI s10 202 (64 * c0 + q) := by subst e18; rfl
          rw [e18b]
          have go2 : ∀ y20 : Int32, (y20 = 0 ∨ y20 = 1) → (y20 ≠ 0 ↔ ∀ b, offs ps c0 ≤ b → b < offs ps (c0 + 1) → (q < q ∨ q = q ∧ b < a + 1) → T q b = some q) → P116 y20 := by
            intro y20 hz2 hs2
            have hny : vp_nar .boolean y20 = y20 := by rcases hz2 with h | h <;> subst h <;> rfl
            apply hP116
            rw [hny]
            refine ⟨nI_inU (by omega) (by omega), ?_⟩
            intro s22 e22 x23 e23
            subst e23; rw [nI_s]
            refine ihk (a + 1) s22 (by omega) (by subst e22; subst e18; exact (F10.wJ (by unfold dGa; omega)).wI (by unfold dGa; omega)) (fun c hc j hj => ?_)
            by_cases ccj : c = c0 ∧ j = q
            · obtain ⟨rfl, rfl⟩ := ccj
              have e1 : sJ s22 201 (64 * c + j) = sJ s10 201 (64 * c + j) ||| y16 := by subst e22; subst e18; show sJ (wJ s10 201 _ _) 201 _ = _; rw [sJ_w, if_pos ⟨rfl, rfl⟩]
              have e2 : sI s22 202 (64 * c + j) = y20 := by subst e22; rw [sI_w, if_pos ⟨rfl, rfl⟩]
              rw [e1, e2]
              exact ⟨hy, hz2, hs2⟩
            · have hk : 64 * c + j ≠ 64 * c0 + q := by omega
              have e1 : sJ s22 201 (64 * c + j) = sJ s10 201 (64 * c + j) := by subst e22; subst e18; show sJ (wJ s10 201 _ _) 201 _ = _; rw [sJ_w, if_neg (fun h => hk h.2)]
              have e2 : sI s22 202 (64 * c + j) = sI s10 202 (64 * c + j) := by subst e22; rw [sI_w, if_neg (fun h => hk h.2)]; subst e18; rfl
              rw [e1, e2]
              have Mc := M10 c hc j hj
              have huni : ∀ b, offs ps c ≤ b → b < offs ps (c + 1) → (j < q ∨ j = q ∧ b < a + 1) → (j < q ∨ j = q ∧ b < a) := by
                intro b hb1 hb2 hh
                by_cases hba : j = q ∧ b = a
                · exact absurd ⟨offs_uni (ps := ps) (a := a) (by omega) (by omega) (by omega) (by omega), hba.1⟩ ccj
                · omega
              refine ⟨fun t => ?_, Mc.2.1, ?_⟩
              · rw [Mc.1 t]
                exact ⟨fun ⟨b, h1, h2, h3, h4⟩ => ⟨b, h1, h2, by omega, h4⟩, fun ⟨b, h1, h2, h3, h4⟩ => ⟨b, h1, h2, huni b h1 h2 h3, h4⟩⟩
              · rw [Mc.2.2]
                exact ⟨fun h b h1 h2 h3 => h b h1 h2 (huni b h1 h2 h3), fun h b h1 h2 h3 => h b h1 h2 (by omega)⟩
          have hsty : (∀ b, offs ps c0 ≤ b → b < offs ps (c0 + 1) → (q < q ∨ q = q ∧ b < a + 1) → T q b = some q) ↔ (∀ b, offs ps c0 ≤ b → b < offs ps (c0 + 1) → (q < q ∨ q = q ∧ b < a) → T q b = some q) ∧ T q a = some q := by
            constructor
            · intro h; exact ⟨fun b h1 h2 h3 => h b h1 h2 (by omega), h a (by omega) (by omega) (by omega)⟩
            · rintro ⟨g1, g2⟩ b hb1 hb2 hb3
              by_cases c : b = a
              · subst c; exact g2
              · exact g1 b hb1 hb2 (by omega)
          rw [hsty] at go2
          exact ⟨fun hx => go2 0 (Or.inl rfl) ⟨fun h => absurd rfl h, fun h => absurd hx (M.2.2.mpr h.1)⟩, fun hx => ⟨fun hne => go2 0 (Or.inl rfl) ⟨fun h => absurd rfl h, fun h => absurd h.2 hne⟩, fun he => go2 1 (Or.inr rfl) ⟨fun _ => ⟨M.2.2.mp hx, he⟩, fun _ => by decide⟩⟩⟩
        cases hd : T q a with
        | none =>
          refine ⟨fun hne => absurd rfl hne, fun _ => go 0 (fun t => ?_)⟩
          rw [bJ_or, bJ_0, Bool.or_false, M.1 t]
          constructor
          · rintro ⟨b, h1, h2, h3, h4⟩; exact ⟨b, h1, h2, by omega, h4⟩
          · rintro ⟨b, h1, h2, h3, h4⟩
            by_cases c : b = a
            · subst c; rw [hd] at h4; exact absurd h4 (by simp)
            · exact ⟨b, h1, h2, by omega, h4⟩
        | some u =>
          have hu := hTn u hd
          refine ⟨fun _ => ?_, fun hh => absurd (by simp) hh⟩
          refine go _ (fun t => ?_)
          rw [bJ_or, show bJ (1 <<< ((dv (some u)).toInt64 &&& 63)) t = decide (t = u) from bJ_one (by omega), Bool.or_eq_true, M.1 t, decide_eq_true_eq]
          constructor
          · rintro (⟨b, h1, h2, h3, h4⟩ | h)
            · exact ⟨b, h1, h2, by omega, h4⟩
            · subst h; exact ⟨a, by omega, by omega, by omega, hd⟩
          · rintro ⟨b, h1, h2, h3, h4⟩
            by_cases c : b = a
            · subst c; rw [hd] at h4; cases h4; exact Or.inr rfl
            · exact Or.inl ⟨b, h1, h2, by omega, h4⟩
end

/-! ===== PURE: the states' numbers ===== -/
noncomputable def rep (D : Nat → Nat → Option Nat) (M N k : Nat) : Nat := (List.range M).findIdx (fun j => @decide (eqv D N k j) (Classical.propDecidable _))
section
variable {D : Nat → Nat → Option Nat} {M N : Nat}
theorem rep_lt {k : Nat} (hk : k < M) : rep D M N k < M := by
  have h : rep D M N k < (List.range M).length := List.findIdx_lt_length_of_exists ⟨k, List.mem_range.mpr hk, by
    rw [@decide_eq_true_eq _ (Classical.propDecidable _)]; exact eqv_refl k⟩
  rw [List.length_range] at h; exact h
theorem rep_eqv {k : Nat} (hk : k < M) : eqv D N k (rep D M N k) := by
  have h := rep_lt (D := D) (N := N) hk
  have h' : (List.range M).findIdx (fun j => @decide (eqv D N k j) (Classical.propDecidable _)) < (List.range M).length := by rw [List.length_range]; exact h
  have := List.findIdx_getElem (w := h')
  rw [List.getElem_range, @decide_eq_true_eq _ (Classical.propDecidable _)] at this
  exact this
theorem rep_least {k j : Nat} (hk : k < M) (hj : j < rep D M N k) : ¬ eqv D N k j := by
  have h := rep_lt (D := D) (N := N) hk
  intro he
  have := List.not_of_lt_findIdx (xs := List.range M) (p := fun j => @decide (eqv D N k j) (Classical.propDecidable _)) hj
  rw [List.getElem_range, (@decide_eq_true_eq _ (Classical.propDecidable _)).mpr he] at this
  exact absurd this (by decide)
theorem rep_of {k j : Nat} (hk : k < M) (he : eqv D N k j) (hl : ∀ i, i < j → ¬ eqv D N k i) : rep D M N k = j := by
  rcases Nat.lt_trichotomy (rep D M N k) j with h | h | h
  · exact absurd (rep_eqv hk) (hl _ h)
  · exact h
  · exact absurd he (rep_least hk h)
theorem rep_eq {k j : Nat} (hk : k < M) (hj : j < M) : rep D M N k = rep D M N j ↔ eqv D N k j := by
  constructor
  · intro h
    have h1 := rep_eqv (D := D) (N := N) hk
    rw [h] at h1
    exact eqv_trans h1 (eqv_symm (rep_eqv hj))
  · intro h
    exact rep_of hk (eqv_trans h (rep_eqv hj)) (fun i hi he => rep_least hj hi (eqv_trans (eqv_symm h) he))
theorem rep_idem {k : Nat} (hk : k < M) : rep D M N (rep D M N k) = rep D M N k := ((rep_eq (rep_lt hk) hk).mpr (eqv_symm (rep_eqv hk)))
theorem rep_zero (h : 1 ≤ M) : rep D M N 0 = 0 := rep_of (by omega) (eqv_refl 0) (fun i hi => by omega)
end
def addL (f : Nat → Nat) (o : Option Nat) (L : List Nat) : List Nat := match o with
  | none => L
  | some t => if f t ∈ L then L else L ++ [f t]
def nrow (D : Nat → Nat → Option Nat) (f : Nat → Nat) (x : Nat) : Nat → Nat → List Nat → List Nat
  | 0, _, L => L
  | r + 1, a, L => nrow D f x r (a + 1) (addL f (D x a) L)
def nbfs (D : Nat → Nat → Option Nat) (f : Nat → Nat) (N : Nat) : Nat → Nat → List Nat → List Nat
  | 0, _, L => L
  | r + 1, k, L => if k < L.length then nbfs D f N r (k + 1) (nrow D f (L.getD k 0) N 0 L) else L
noncomputable def stL (D : Nat → Nat → Option Nat) (M N : Nat) : List Nat := nbfs D (rep D M N) N 64 0 [0]
/-- what holds of the list of the states' sets on the way -/
def okL (f : Nat → Nat) (M : Nat) (L : List Nat) : Prop := L.Nodup ∧ (∀ x ∈ L, x < M ∧ f x = x) ∧ L.head? = some 0
theorem okL.len {f : Nat → Nat} {M : Nat} {L : List Nat} (h : okL f M L) : L.length ≤ M := by
  have := h.1.length_le_of_subset (l₂ := List.range M) (fun x hx => List.mem_range.mpr (h.2.1 x hx).1)
  rw [List.length_range] at this; exact this
theorem okL.add {f : Nat → Nat} {M t : Nat} {L : List Nat} (h : okL f M L) (hn : ¬ f t ∈ L) (h1 : f t < M) (h2 : f (f t) = f t) : okL f M (L ++ [f t]) := by
  refine ⟨nodup_snoc h.1 hn, fun x hx => ?_, by rw [List.head?_append, h.2.2]; rfl⟩
  rw [List.mem_append, List.mem_singleton] at hx
  rcases hx with hx | hx
  · exact h.2.1 x hx
  · subst hx; exact ⟨h1, h2⟩
noncomputable def stT (D : Nat → Nat → Option Nat) (M N q a : Nat) : Option Nat := (D ((stL D M N).getD q 0) a).map (fun t => (stL D M N).idxOf (rep D M N t))
/-- ways known to lie in L -/
def cloL (D : Nat → Nat → Option Nat) (f : Nat → Nat) (N : Nat) (L : List Nat) (k a : Nat) : Prop := ∀ (j : Nat) (hj : j < L.length) (b : Nat), b < N → (j < k ∨ j = k ∧ b < a) → ∀ t, D L[j] b = some t → f t ∈ L
/-! the reference -/
section
variable {s : yS} {D : Nat → Nat → Option Nat} {M N : Nat}
def apM (s : yS) (D : Nat → Nat → Option Nat) (M N : Nat) : Prop := ∀ k j, k < M → j < M → ((sI s 172) (64 * k + j) = 0 ↔ eqv D N k j)
theorem k_leastLike {k : Nat} {Q : Int32 → Prop} (hM : M ≤ 63) (ha : apM s D M N) (hk : k < M) (H : Q (nI (rep D M N k))) : W_X12_leastLike s (nI k) Q := by
  have hr := rep_lt (D := D) (N := N) hk
  unfold W_X12_leastLike
  intro P2 hP2
  suffices hL : ∀ (r j : Nat), j + r = rep D M N k → P2 (nI j) from hL (rep D M N k) 0 (by omega)
  intro r
  induction r with
  | zero =>
    intro j hj
    apply hP2
    rw [nI_mul, nI_addU, nI_ix (n := 64 * k + j) (by omega)]
    have hj' : j = rep D M N k := by omega
    refine ⟨nI_inU (by omega) (by omega), fun _ => by rw [hj']; exact H, fun hh => absurd ((ha k j hk (by omega)).mpr (by rw [hj']; exact rep_eqv hk)) hh⟩
  | succ r ih =>
    intro j hj
    apply hP2
    rw [nI_mul, nI_addU, nI_ix (n := 64 * k + j) (by omega)]
    refine ⟨nI_inU (by omega) (by omega), fun h0 => absurd ((ha k j hk (by omega)).mp h0) (rep_least hk (by omega)), fun _ => ?_⟩
    intro x3 e3; subst e3; rw [nI_s]
    exact ih (j + 1) (by omega)
/-- the states so far -/
def stM (s : yS) (f : Nat → Nat) (M : Nat) (L : List Nat) : Prop := (sI s 139 56) = nI L.length ∧ (∀ (k : Nat) (h : k < L.length), (sI s 174) k = nI L[k]) ∧ ∀ k, k < M → f k = k → (sI s 173) k = if k ∈ L then nI (L.idxOf k) else -1
def dNu (a i : Nat) : Prop := (a = 139 ∧ i = 56) ∨ a = 173 ∨ a = 174
/-- states and ways of the reference -/
def tyM (s : yS) (T : Nat → Nat → Option Nat) (n N : Nat) : Prop := 1 ≤ n ∧ n ≤ 63 ∧ N ≤ 512 ∧ (sI s 139 56) = nI n ∧ (sI s 139 47) = nI N ∧ ∀ q, q < n → ∃ x, x < 64 ∧ (sI s 174) q = nI x ∧ ∀ a, a < N → match T q a with
  | none => (sI s 171) (512 * x + a) = -1
  | some t => t < n ∧ ∃ y, y < 64 ∧ (sI s 171) (512 * x + a) = nI y ∧ (sI s 173) y = nI t
theorem nI_ge0 {n : Nat} (h : n < 2147483648) : (0 : Int32) ≤ nI n := by rw [nI_0U, nI_leU (by omega) h]; omega
theorem dv_neg {o : Option Nat} {M : Nat} (hM : M ≤ 63) (h : ∀ t, o = some t → t < M) : (dv o < 0 ↔ o = none) ∧ (0 ≤ dv o ↔ o ≠ none) := by
  cases o with
  | none => exact ⟨⟨fun _ => rfl, fun _ => (by decide : (-1 : Int32) < 0)⟩, ⟨fun hh => absurd hh (by decide), fun hh => absurd rfl hh⟩⟩
  | some t =>
    have := h t rfl
    exact ⟨⟨fun hh => absurd hh (nI_nneg (n := t) (by omega)), fun hh => absurd hh (by simp)⟩, ⟨fun _ => by simp, fun _ => nI_ge0 (by omega)⟩⟩
/-- the sets' states -/
def soM (s : yS) (D : Nat → Nat → Option Nat) (M N : Nat) : Prop := ∀ k, k < M → rep D M N k ∈ stL D M N → (sI s 173) k = nI ((stL D M N).idxOf (rep D M N k))
def nuL (D : Nat → Nat → Option Nat) (M N : Nat) : Prop := okL (rep D M N) M (stL D M N) ∧ cloL D (rep D M N) N (stL D M N) (stL D M N).length 0
theorem k_number {Q : yS → Prop} (h : dwM s D M N) (h0 : 1 ≤ M) (ha : apM s D M N) (H : ∀ s', frM dNu s s' → tyM s' (stT D M N) (stL D M N).length N → soM s' D M N → nuL D M N → Q s') : W_X12_number s Q := by
  obtain ⟨hM, hN, h1, h2, h3⟩ := h
  have h : dwM s D M N := ⟨hM, hN, h1, h2, h3⟩
  unfold W_X12_number
  intro P2 hP2
  suffices hZ : ∀ (r k : Nat) (s2 : yS), k + r = M → frM dNu s s2 → (∀ j, j < k → (sI s2 173) j = -1) → P2 (nI k) s2 from hZ M 0 s (by omega) frM.rfl' (fun j hj => by omega)
  intro r
  induction r with
  | succ r ih =>
    intro k s2 hk F2 z2
    apply hP2
    rw [F2.1 139 51 (by unfold dNu; omega), h1, nI_leU (by omega) (by omega), nI_ix (n := k) (by omega)]
    refine ⟨fun hh => absurd hh (by omega), fun _ => ⟨nI_inU (by omega) (by omega), ?_⟩⟩
    intro s34 e34 x35 e35
    subst e35; rw [nI_s]
    refine ih (k + 1) s34 (by omega) (by subst e34; exact F2.wI (by unfold dNu; omega)) (fun j hj => ?_)
    subst e34
    by_cases c : j = k
    · subst c; rw [sI_w, if_pos ⟨rfl, rfl⟩]
    · rw [sI_w, if_neg (by omega)]; exact z2 j (by omega)
  | zero =>
    intro k s2 hk F2 z2
    apply hP2
    rw [F2.1 139 51 (by unfold dNu; omega), h1, nI_leU (by omega) (by omega)]
    refine ⟨fun _ => ⟨nI_inU (a := 0) (by omega) (by omega), ?_⟩, fun hh => absurd (by omega) hh⟩
    intro s4 e4
    refine ⟨nI_inU (a := 0) (by omega) (by omega), ?_⟩
    intro s6 e6 s7 e7 P44 hP44
    have F7 : frM dNu s s7 := by
      subst e7; subst e6; subst e4; exact ((F2.wI (by unfold dNu; omega)).wI (by unfold dNu; omega)).wI (by unfold dNu; omega)
    have S7 : stM s7 (rep D M N) M [0] := by
      refine ⟨by subst e7; rw [sI_w, if_pos ⟨rfl, rfl⟩]; rfl, fun k hk => ?_, fun k hk hf => ?_⟩
      · have : k = 0 := by simp at hk; exact hk
        subst this
        subst e7; rw [sI_w, if_neg (by omega)]; subst e6; rw [sI_w, if_neg (by omega)]; subst e4; rw [sI_w, if_pos ⟨rfl, rfl⟩]; rfl
      · by_cases c : k = 0
        · subst c; subst e7; rw [sI_w, if_neg (by omega)]; subst e6; rw [sI_w, if_pos ⟨rfl, rfl⟩]; simp; rfl
        · rw [if_neg (by simp; exact c)]
          subst e7; rw [sI_w, if_neg (by omega)]; subst e6; rw [sI_w, if_neg (by show ¬ (173 = 173 ∧ k = 0); omega)]; subst e4; rw [sI_w, if_neg (by omega)]; exact z2 k (by omega)
    clear e7 e6 e4
    have hst : stL D M N = nbfs D (rep D M N) N 64 0 [0] := rfl
    generalize hR : stL D M N = R at hst
    suffices hLp : ∀ (f k : Nat) (L : List Nat) (s9 : yS), f + k = 64 → k ≤ L.length → 1 ≤ L.length → okL (rep D M N) M L → frM dNu s s9 → stM s9 (rep D M N) M L → cloL D (rep D M N) N L k 0 → R = nbfs D (rep D M N) N f k L → P44 (nI k) s9 from
      hLp 64 0 [0] s7 (by omega) (by simp) (by simp) ⟨by simp, fun x hx => by simp at hx; subst hx; exact ⟨by omega, rep_zero h0⟩, rfl⟩ F7 S7 (fun j hj b hb hh => by omega) hst
    intro f
    induction f with
    | zero => intro k L s9 hf hk hl1 ok9; have := ok9.len; omega
    | succ f ih =>
      intro k L s9 hf hk hl1 ok9 F9 S9 c9 hRe
      have hlen := ok9.len
      rw [nbfs] at hRe
      apply hP44
      rw [S9.1, nI_leU (by omega) (by omega)]
      refine ⟨fun hle => ?_, fun hlt => ?_⟩
      · -- the end
        rw [if_neg (by omega)] at hRe
        subst hRe
        have hkl : k = R.length := by omega
        intro P155 hP155
        suffices hE : ∀ (q j : Nat) (s11 : yS), j + q = M → frM dNu s s11 → (sI s11 139 56) = nI R.length → (∀ (k : Nat) (h : k < R.length), (sI s11 174) k = nI R[k]) → (∀ k, k < M → (k < j ∨ rep D M N k = k) → (sI s11 173) k = if rep D M N k ∈ R then nI (R.idxOf (rep D M N k)) else -1) → P155 (nI j) s11 from
          hE M 0 s9 (by omega) F9 S9.1 S9.2.1 (fun k hk hh => by
            have := S9.2.2 k hk (by omega)
            rw [show rep D M N k = k by omega]; exact this)
        intro q
        induction q with
        | zero =>
          intro j s11 hj F11 n11 o11 t11
          apply hP155
          rw [F11.1 139 51 (by unfold dNu; omega), h1, nI_leU (by omega) (by omega)]
          refine ⟨fun _ => ?_, fun hh => absurd (by omega) hh⟩
          have hso : soM s11 D M N := fun k hk hin => by
            rw [hR] at hin ⊢
            rw [t11 k hk (by omega), if_pos hin]
          refine H s11 F11 ?_ hso (by unfold nuL; rw [hR]; refine ⟨ok9, ?_⟩; rw [← hkl]; exact c9)
          rw [hR]
          refine ⟨hl1, by omega, hN, n11, (F11.1 139 47 (by unfold dNu; omega)).trans h2, fun q hq => ⟨R[q], ?_, o11 q hq, fun a ha => ?_⟩⟩
          · have := (ok9.2.1 R[q] (List.getElem_mem hq)).1; omega
          · have hx := (ok9.2.1 R[q] (List.getElem_mem hq)).1
            have hw := h3 R[q] a hx ha
            unfold stT
            rw [hR, getD_at hq, F11.1 171 _ (by unfold dNu; omega), hw.1]
            cases hd : D R[q] a with
            | none => rfl
            | some t =>
              have ht := hw.2 t hd
              have hin : rep D M N t ∈ R := c9 q hq a ha (by omega) t hd
              refine ⟨List.idxOf_lt_length_of_mem hin, t, by omega, rfl, ?_⟩
              rw [t11 t ht (by omega), if_pos hin]
        | succ q ihq =>
          intro j s11 hj F11 n11 o11 t11
          apply hP155
          rw [F11.1 139 51 (by unfold dNu; omega), h1, nI_leU (by omega) (by omega)]
          have hrl := rep_lt (D := D) (N := N) (M := M) (k := j) (by omega)
          have a11 : apM s11 D M N := fun k j hk hj => by rw [F11.1 172 _ (by unfold dNu; omega)]; exact ha k j hk hj
          refine ⟨fun hh => absurd hh (by omega), fun _ => k_leastLike hM a11 (by omega) ?_⟩
          rw [nI_ix (n := rep D M N j) (by omega), nI_ix (n := j) (by omega), t11 _ hrl (Or.inr (rep_idem (by omega))), rep_idem (by omega)]
          refine ⟨nI_inU (by omega) (by omega), nI_inU (by omega) (by omega), ?_⟩
          intro s15 e15 x16 e16
          subst e16; rw [nI_s]
          refine ihq (j + 1) s15 (by omega) (by subst e15; exact F11.wI (by unfold dNu; omega)) (by subst e15; rw [sI_w, if_neg (by omega)]; exact n11) (fun k hk => by subst e15; rw [sI_w, if_neg (by omega)]; exact o11 k hk) (fun k hk hh => ?_)
          subst e15
          by_cases c : k = j
          · subst c; rw [sI_w, if_pos ⟨rfl, rfl⟩]
          · rw [sI_w, if_neg (by omega)]; exact t11 k hk (by omega)
      · have hkl : k < L.length := by omega
        rw [if_pos hkl, getD_at hkl] at hRe
        have hxM := (ok9.2.1 L[k] (List.getElem_mem hkl)).1
        intro P54 hP54
        suffices hA : ∀ (r a : Nat) (L1 : List Nat) (s18 : yS), a + r = N → L.length ≤ L1.length → (∃ (h : k < L1.length), L1[k] = L[k]) → okL (rep D M N) M L1 → frM dNu s s18 → stM s18 (rep D M N) M L1 → cloL D (rep D M N) N L1 k a → R = nbfs D (rep D M N) N f (k + 1) (nrow D (rep D M N) L[k] r a L1) → P54 (nI a) s18 from
          hA N 0 L s9 (by omega) (by omega) ⟨hkl, rfl⟩ ok9 F9 S9 c9 hRe
        generalize hx : L[k] = x at hRe hxM ⊢
        intro r
        induction r with
        | zero =>
          intro a L1 s18 ha' hle hkx ok F18 S18 c18 hRa
          obtain ⟨hk1, hkx⟩ := hkx
          apply hP54
          rw [F18.1 139 47 (by unfold dNu; omega), h2, nI_leU (by omega) (by omega)]
          refine ⟨fun _ => ?_, fun hh => absurd (by omega) hh⟩
          intro x19 e19; subst e19; rw [nI_s]
          exact ih (k + 1) L1 s18 (by omega) (by omega) (by omega) ok F18 S18 (fun j hj b hb hh => c18 j hj b hb (by omega)) hRa
        | succ r ihr =>
          intro a L1 s18 ha' hle hkx ok F18 S18 c18 hRa
          obtain ⟨hk1, hkx⟩ := hkx
          have hlen1 := ok.len
          have hw := h3 x a hxM (by omega)
          have hneg := dv_neg hM hw.2
          have a18 : apM s18 D M N := fun k j hk hj => by rw [F18.1 172 _ (by unfold dNu; omega)]; exact ha k j hk hj
          rw [nrow] at hRa
          apply hP54
          rw [F18.1 139 47 (by unfold dNu; omega), h2, nI_leU (by omega) (by omega)]
          refine ⟨fun hh => absurd hh (by omega), fun _ => ⟨nI_inU (by omega) (by omega), ?_⟩⟩
          rw [nI_ix (n := k) (by omega), S18.2.1 k hk1, hkx, nI_mul, nI_addU, nI_ix (n := 512 * x + a) (by omega), F18.1 171 _ (by unfold dNu; omega), hw.1]
          refine ⟨nI_inU (by omega) (by omega), ?_⟩
          intro x22 e22
          subst e22
          rw [hneg.1, hneg.2]
          intro P93 hP93
          have go : ∀ (L2 : List Nat) (s24 : yS), L1.length ≤ L2.length → (∃ (h : k < L2.length), L2[k] = x) → okL (rep D M N) M L2 → frM dNu s s24 → stM s24 (rep D M N) M L2 → (∀ (j : Nat) (hj : j < L2.length) (b : Nat), b < N → (j < k ∨ j = k ∧ b < a) → ∀ t, D L2[j] b = some t → rep D M N t ∈ L2) → (∀ t, D x a = some t → rep D M N t ∈ L2) → R = nbfs D (rep D M N) N f (k + 1) (nrow D (rep D M N) x r (a + 1) L2) → ∀ x25 : Int32, x25 = nI a + 1 → P54 x25 s24 := by
            intro L2 s24 hle2 hkx2 ok2 F24 S24 c24 hn2 hR2 x25 e25
            subst e25; rw [nI_s]
            refine ihr (a + 1) L2 s24 (by omega) (by omega) hkx2 ok2 F24 S24 (fun j hj b hb hh t ht => ?_) hR2
            by_cases cn : j = k ∧ b = a
            · obtain ⟨rfl, rfl⟩ := cn
              obtain ⟨_, hkx2⟩ := hkx2
              rw [hkx2] at ht; exact hn2 t ht
            · exact c24 j hj b hb (by omega) t ht
          cases hd : D x a with
          | none =>
            rw [hd] at hRa
            refine ⟨fun hh => absurd rfl hh, fun _ => ?_⟩
            apply hP93
            intro P141 hP141
            refine ⟨fun _ => hP141 _ ?_, fun hh => absurd hd hh⟩
            exact go L1 s18 (by omega) ⟨hk1, hkx⟩ ok F18 S18 c18 (fun t ht => by rw [hd] at ht; exact absurd ht (by simp)) hRa
          | some t =>
            have ht := hw.2 t hd
            have hrt := rep_lt (D := D) (N := N) ht
            rw [hd] at hRa
            refine ⟨fun _ => k_leastLike hM a18 ht ?_, fun hh => absurd (by simp) hh⟩
            apply hP93
            intro P141 hP141
            refine ⟨fun hh => absurd hh (by rw [hd]; simp), fun _ => ⟨nI_inU (by omega) (by omega), ?_⟩⟩
            rw [nI_ix (n := rep D M N t) (by omega), S18.2.2 _ hrt (rep_idem ht)]
            by_cases hin : rep D M N t ∈ L1
            · rw [if_pos hin]
              have e : addL (rep D M N) (some t) L1 = L1 := by unfold addL; exact if_pos hin
              rw [e] at hRa
              have hi := List.idxOf_lt_length_of_mem hin
              refine ⟨fun _ => hP141 _ (go L1 s18 (by omega) ⟨hk1, hkx⟩ ok F18 S18 c18 (fun t' ht' => by rw [hd] at ht'; cases ht'; exact hin) hRa), fun hh => absurd (nI_ge0 (by omega)) hh⟩
            · rw [if_neg hin]
              have e : addL (rep D M N) (some t) L1 = L1 ++ [rep D M N t] := by unfold addL; exact if_neg hin
              rw [e] at hRa
              have ok2 := ok.add hin hrt (rep_idem ht)
              have hl2 : (L1 ++ [rep D M N t]).length = L1.length + 1 := by rw [List.length_append]; rfl
              have hlen2 := ok2.len
              refine ⟨fun hh => absurd hh (by decide), fun _ => ⟨nI_inU (by omega) (by omega), ?_⟩⟩
              intro s28 e28
              have n28 : (sI s28 139 56) = nI L1.length := by subst e28; rw [sI_w, if_neg (by omega)]; exact S18.1
              rw [n28, nI_ix (n := L1.length) (by omega)]
              refine ⟨nI_inU (by omega) (by omega), ?_⟩
              intro s30 e30 s31 e31
              have n30 : (sI s30 139 56) = nI L1.length := by subst e30; rw [sI_w, if_neg (by omega)]; exact n28
              rw [n30, nI_s] at e31
              apply hP141
              refine go (L1 ++ [rep D M N t]) s31 (by omega) ⟨by omega, by rw [List.getElem_append_left hk1]; exact hkx⟩ ok2 (by subst e31; subst e30; subst e28; exact ((F18.wI (by unfold dNu; omega)).wI (by unfold dNu; omega)).wI (by unfold dNu; omega)) ⟨by subst e31; rw [sI_w, if_pos ⟨rfl, rfl⟩, hl2], fun j hj => ?_, fun j hj hf => ?_⟩ (fun j hj b hb hh t' ht' => ?_) (fun t' ht' => by rw [hd] at ht'; cases ht'; simp) hRa
              · subst e31; rw [sI_w, if_neg (by omega)]; subst e30
                by_cases cj : j = L1.length
                · subst cj
                  rw [List.getElem_append_right (by omega), sI_w, if_pos ⟨rfl, rfl⟩]; simp
                · rw [List.getElem_append_left (by omega), sI_w, if_neg (by omega)]; subst e28; rw [sI_w, if_neg (by omega)]; exact S18.2.1 j (by omega)
              · subst e31; rw [sI_w, if_neg (by omega)]; subst e30; rw [sI_w, if_neg (by omega)]; subst e28
                by_cases cj : j = rep D M N t
                · subst cj
                  rw [sI_w, if_pos ⟨rfl, rfl⟩, if_pos (by simp), List.idxOf_append, if_neg hin, S18.1]; simp
                · rw [sI_w, if_neg (by omega), S18.2.2 j hj hf]
                  by_cases hc : j ∈ L1
                  · rw [if_pos hc, if_pos (by simp [hc]), List.idxOf_append, if_pos hc]
                  · rw [if_neg hc, if_neg (by simp [hc, cj])]
              · have hj1 : j < L1.length := by omega
                rw [List.getElem_append_left hj1] at ht'
                have := c18 j hj1 b hb hh t' ht'
                simp [this]
end

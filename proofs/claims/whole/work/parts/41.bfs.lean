/-! ===== PURE: the sets ===== -/
def addS (S : List Int32) (y : Int32) : Option (List Int32) := if y = 0 ∨ y ∈ S then some S else if S.length = 63 then none else some (S ++ [y])
def rowR (tr : Nat → Int32 → Int32) (x : Int32) : Nat → Nat → List Int32 → Option (List Int32)
  | 0, _, S => some S
  | r + 1, a, S => match addS S (tr a x) with
    | none => none
    | some S' => rowR tr x r (a + 1) S'
def bfs (tr : Nat → Int32 → Int32) (N : Nat) : Nat → Nat → List Int32 → Option (List Int32)
  | 0, _, S => some S
  | f + 1, k, S => if k < S.length then (match rowR tr (S.getD k 0) N 0 S with
    | none => none
    | some S' => bfs tr N f (k + 1) S') else some S
/-- where a way leads, as a number of S -/
def wv (S : List Int32) (y : Int32) : Int32 := if y = 0 then -1 else nI (S.idxOf y)
/-- the calls of letters -/
def cOf (ps : PS) (a : Nat) : Nat := (List.range 16).countP (fun c => decide (offs ps (c + 1) ≤ a))
def trA (ps : PS) (a : Nat) (x : Int32) : Int32 := stepP ps (cOf ps a) (lowV ps (cOf ps a) (a - offs ps (cOf ps a))) x
theorem countP_rng : ∀ (n k : Nat), k ≤ n → (List.range n).countP (fun c => decide (c < k)) = k
  | 0, k, h => by have : k = 0 := by omega
                  subst this; rfl
  | n + 1, k, h => by
    rw [List.range_succ, List.countP_append]
    by_cases e : k = n + 1
    · subst e
      have h1 : (List.range n).countP (fun c => decide (c < n + 1)) = n := by
        rw [List.countP_eq_length.mpr]
        · simp
        · intro c hc; rw [List.mem_range] at hc; simp; omega
      rw [h1]; simp
    · rw [countP_rng n k (by omega)]; simp; omega
theorem cOf_eq {ps : PS} {c i : Nat} (hc : c < 16) (hi : i < nLet ps c) : cOf ps (offs ps c + i) = c := by
  unfold cOf
  have : (List.range 16).countP (fun c' => decide (offs ps (c' + 1) ≤ offs ps c + i)) = (List.range 16).countP (fun c' => decide (c' < c)) := by
    apply List.countP_congr
    intro c' _
    simp only [decide_eq_true_eq]
    constructor
    · intro h
      by_cases c1 : c' < c
      · exact c1
      · have h1 : offs ps (c + 1) ≤ offs ps (c' + 1) := offs_mono ps (by omega)
        have h2 : offs ps (c + 1) = offs ps c + nLet ps c := rfl
        omega
    · intro h
      have h1 : offs ps (c' + 1) ≤ offs ps c := offs_mono ps (by omega)
      omega
  rw [this]; exact countP_rng 16 c (by omega)
theorem trA_eq {ps : PS} {c i : Nat} {x : Int32} (hc : c < 16) (hi : i < nLet ps c) : trA ps (offs ps c + i) x = stepP ps c (lowV ps c i) x := by
  unfold trA; rw [cOf_eq hc hi, Nat.add_sub_cancel_left]
theorem wv_app {S : List Int32} {y z : Int32} (h : y = 0 ∨ y ∈ S) : wv (S ++ [z]) y = wv S y := by
  unfold wv
  by_cases h0 : y = 0
  · rw [if_pos h0, if_pos h0]
  · rw [if_neg h0, if_neg h0, List.idxOf_append, if_pos (h.resolve_left h0)]
theorem idx_first {y : Int32} : ∀ {l : List Int32} {k : Nat} (hk : k < l.length), (∀ (j : Nat) (hj : j < l.length), j < k → l[j] ≠ y) → l[k] = y → l.idxOf y = k
  | [], k, hk, _, _ => by simp at hk
  | a :: l, 0, hk, _, he => by
    have he : a = y := he
    subst he; simp
  | a :: l, k + 1, hk, hno, he => by
    have h0 : a ≠ y := hno 0 (by simp) (by omega)
    have := idx_first (l := l) (k := k) (by simp at hk; omega) (fun j hj hjk => hno (j + 1) (by simp; omega) (by omega)) he
    rw [List.idxOf_cons, this, beq_eq_false_iff_ne.mpr h0]; rfl
/-- all sets of a policy -/
def setsOf (ps : PS) : Option (List Int32) := bfs (trA ps) (offs ps 16) 64 0 [1]
section
variable {s : yS}
theorem k_setLetter {ps : PS} {c i : Nat} {Q : yS → Prop} (ht : ltM s ps 16 0) (ho : offs ps 16 ≤ 512) (hc : c < 16) (hi : i < nLet ps c) (H : ∀ s', frM (fun a _ => a = 175 ∨ a = 176) s s' → vM s' (lowV ps c i) → Q s') : W_X12_setLetter s (nI (offs ps c + i)) Q := by
  have ha : offs ps c + i < 512 := by
    have h7 : offs ps (c + 1) ≤ offs ps 16 := offs_mono ps (by omega)
    have h8 : offs ps (c + 1) = offs ps c + nLet ps c := rfl
    omega
  have hlow := (ht.2 c i (Or.inl ⟨hc, hi⟩)).2
  unfold W_X12_setLetter
  intro P2 hP2
  suffices hL : ∀ (r d : Nat) (s2 : yS), d + r = 3 → frM (fun a _ => a = 175 ∨ a = 176) s s2 → (∀ k, k < d → sI s2 175 k = lowV ps c i k) → P2 (nI d) s2 from
    hL 3 0 s (by omega) frM.rfl' (fun k hk => by omega)
  intro r
  induction r with
  | zero =>
    intro d s2 hd F2 v2
    have hd3 : d = 3 := by omega
    subst hd3
    apply hP2
    refine ⟨fun _ => ?_, fun hh => absurd (by decide) hh⟩
    intro P32 hP32
    suffices hK : ∀ (q k : Nat) (s4 : yS), k + q = 6 → frM (fun a _ => a = 175 ∨ a = 176) s s4 → (∀ j, j < 3 → sI s4 175 j = lowV ps c i j) → (∀ j, j < k → sI s4 176 j = lowV ps c i (3 + j)) → P32 (nI k) s4 from
      hK 6 0 s2 (by omega) F2 v2 (fun j hj => by omega)
    intro q
    induction q with
    | zero =>
      intro k s4 hk F4 v4 w4
      apply hP32
      refine ⟨fun _ => H s4 F4 ⟨v4, fun j hj => w4 j (by omega)⟩, fun hh => absurd ?_ hh⟩
      rw [nI_leU (by omega) (by omega)]; omega
    | succ q ih =>
      intro k s4 hk F4 v4 w4
      apply hP32
      have hv : sI s4 166 (9 * (offs ps c + i) + 3 + k) = lowV ps c i (3 + k) := by
        rw [F4.1 _ _ (by omega), Nat.add_assoc]; exact hlow (3 + k) (by omega)
      rw [nI_leU (by omega) (by omega), nI_mul, nI_addU, nI_addU, nI_ix (n := 9 * (offs ps c + i) + 3 + k) (by omega), nI_ix (n := k) (by omega), hv]
      refine ⟨fun hh => absurd hh (by omega), fun _ => ⟨nI_inU (by omega) (by omega), nI_inU (by omega) (by omega), ?_⟩⟩
      intro s7 e7 x8 e8
      subst e8; rw [nI_s]
      refine ih (k + 1) s7 (by omega) (by subst e7; exact F4.wI (Or.inr rfl)) (fun j hj => by subst e7; rw [sI_w, if_neg (by omega)]; exact v4 j hj) (fun j hj => ?_)
      subst e7
      by_cases cj : j = k
      · subst cj; rw [sI_w, if_pos ⟨rfl, rfl⟩]
      · rw [sI_w, if_neg (by omega)]; exact w4 j (by omega)
  | succ r ih =>
    intro d s2 hd F2 v2
    apply hP2
    have hv : sI s2 166 (9 * (offs ps c + i) + d) = lowV ps c i d := by
      rw [F2.1 _ _ (by omega)]; exact hlow d (by omega)
    rw [nI_leU (by omega) (by omega), nI_mul, nI_addU (9 * (offs ps c + i)) d, nI_ix (n := 9 * (offs ps c + i) + d) (by omega), nI_ix (n := d) (by omega), hv]
    refine ⟨fun hh => absurd hh (by omega), fun _ => ⟨nI_inU (by omega) (by omega), nI_inU (by omega) (by omega), ?_⟩⟩
    intro s11 e11 x12 e12
    subst e12; rw [nI_s]
    refine ih (d + 1) s11 (by omega) (by subst e11; exact F2.wI (Or.inl rfl)) (fun j hj => ?_)
    subst e11
    by_cases cj : j = d
    · subst cj; rw [sI_w, if_pos ⟨rfl, rfl⟩]
    · rw [sI_w, if_neg (by omega)]; exact v2 j (by omega)
/-- the reference's sets -/
def ssM (s : yS) (S : List Int32) : Prop := (sI s 139 51) = nI S.length ∧ ∀ (k : Nat) (h : k < S.length), (sI s 170) k = S[k]
theorem k_indexOf {S : List Int32} {y : Int32} {Q : Int32 → Prop} (h : ssM s S) (hl : S.length ≤ 63) (H : Q (if y ∈ S then nI (S.idxOf y) else -1)) : W_X12_indexOf s y Q := by
  unfold W_X12_indexOf
  intro P2 hP2
  suffices hL : ∀ (r k : Nat), k + r = S.length → (∀ (j : Nat) (hj : j < S.length), j < k → S[j] ≠ y) → P2 (nI k) from hL S.length 0 (by omega) (fun j _ hj => by omega)
  intro r
  induction r with
  | zero =>
    intro k hk hno
    apply hP2
    intro P26 hP26
    have hnin : ¬ y ∈ S := by
      intro hin
      obtain ⟨j, hj, e⟩ := List.getElem_of_mem hin
      exact hno j hj (by omega) e
    rw [if_neg hnin] at H
    rw [h.1, nI_leU (by omega) (by omega)] at hP26 ⊢
    have hP := hP26 ⟨fun _ => H, fun hh => absurd (by omega) hh⟩
    exact ⟨fun _ => hP, fun hh => absurd (by omega) hh⟩
  | succ r ih =>
    intro k hk hno
    have hkl : k < S.length := by omega
    apply hP2
    intro P26 hP26
    rw [h.1, nI_leU (by omega) (by omega)] at hP26 ⊢
    rw [nI_ix (n := k) (by omega), h.2 k hkl]
    refine ⟨fun hh => absurd hh (by omega), fun _ => ⟨nI_inU (by omega) (by omega), fun he => hP26 ⟨fun hh => absurd hh (by omega), fun _ => ?_⟩, fun hne => ?_⟩⟩
    · have hin : y ∈ S := by rw [← he]; exact List.getElem_mem hkl
      rw [if_pos hin] at H
      have hidx : S.idxOf y = k := idx_first hkl hno he
      rw [hidx] at H; exact H
    · intro x3 e3; subst e3; rw [nI_s]
      refine ih (k + 1) (by omega) (fun j hj hjk => ?_)
      by_cases cj : j = k
      · subst cj; exact hne
      · exact hno j hj (by omega)
end

/-! ===== PURE: groups ===== -/
theorem cover_len : ∀ (G : Nat) (l : List Nat), (∀ v, v < G → v ∈ l) → G ≤ l.length
  | 0, _, _ => Nat.zero_le _
  | G + 1, l, h => by
    obtain ⟨l1, l2, e⟩ := List.append_of_mem (h G (by omega))
    subst e
    have := cover_len G (l1 ++ l2) (fun v hv => by
      have := h v (by omega)
      rw [List.mem_append, List.mem_cons] at this
      rw [List.mem_append]
      rcases this with h1 | h1 | h1
      · exact Or.inl h1
      · omega
      · exact Or.inr h1)
    rw [List.length_append] at this
    rw [List.length_append, List.length_cons]; omega
theorem cover_nodup : ∀ (G : Nat) (l : List Nat), (∀ v, v < G → v ∈ l) → l.length ≤ G → l.Nodup
  | 0, l, _, h => by have : l = [] := List.length_eq_zero_iff.mp (by omega)
                     subst this; simp
  | G + 1, l, h, hl => by
    obtain ⟨l1, l2, e⟩ := List.append_of_mem (h G (by omega))
    subst e
    have hc : ∀ v, v < G → v ∈ l1 ++ l2 := fun v hv => by
      have := h v (by omega)
      rw [List.mem_append, List.mem_cons] at this
      rw [List.mem_append]
      rcases this with h1 | h1 | h1
      · exact Or.inl h1
      · omega
      · exact Or.inr h1
    rw [List.length_append, List.length_cons] at hl
    have hn := cover_nodup G (l1 ++ l2) hc (by rw [List.length_append]; omega)
    have hno : G ∉ l1 ++ l2 := fun hin => by
      have := cover_len (G + 1) (l1 ++ l2) (fun v hv => by
        by_cases c : v = G
        · subst c; exact hin
        · exact hc v (by omega))
      rw [List.length_append] at this; omega
    rw [List.mem_append] at hno
    rw [List.nodup_append] at hn ⊢
    refine ⟨hn.1, List.nodup_cons.mpr ⟨fun hh => hno (Or.inr hh), hn.2.1⟩, fun a ha b hb => ?_⟩
    rw [List.mem_cons] at hb
    rcases hb with hb | hb
    · subst hb; intro e; subst e; exact hno (Or.inl ha)
    · exact hn.2.2 a ha b hb
/-- the keys in the order in which they come -/
def kl (f : Nat → Nat) : Nat → List Nat
  | 0 => []
  | k + 1 => if f k ∈ kl f k then kl f k else kl f k ++ [f k]
theorem kl_mem {f : Nat → Nat} {x : Nat} : ∀ (k : Nat), x ∈ kl f k ↔ ∃ j, j < k ∧ f j = x
  | 0 => by unfold kl; simp
  | k + 1 => by
    unfold kl
    split
    · rename_i h
      rw [kl_mem k]
      constructor
      · rintro ⟨j, h1, h2⟩; exact ⟨j, by omega, h2⟩
      · rintro ⟨j, h1, h2⟩
        by_cases c : j = k
        · subst c; rw [h2] at h; exact (kl_mem j).mp h
        · exact ⟨j, by omega, h2⟩
    · rw [List.mem_append, List.mem_singleton, kl_mem k]
      constructor
      · rintro (⟨j, h1, h2⟩ | h2)
        · exact ⟨j, by omega, h2⟩
        · exact ⟨k, by omega, h2.symm⟩
      · rintro ⟨j, h1, h2⟩
        by_cases c : j = k
        · subst c; exact Or.inr h2.symm
        · exact Or.inl ⟨j, by omega, h2⟩
theorem kl_len {f : Nat → Nat} : ∀ (k : Nat), (kl f k).length ≤ k
  | 0 => Nat.le_refl _
  | k + 1 => by
    have := kl_len (f := f) k
    unfold kl; split
    · omega
    · rw [List.length_append]; show _ + 1 ≤ _; omega
theorem kl_nodup {f : Nat → Nat} : ∀ (k : Nat), (kl f k).Nodup
  | 0 => by unfold kl; simp
  | k + 1 => by
    unfold kl; split
    · exact kl_nodup k
    · rename_i h; exact nodup_snoc (kl_nodup k) h
theorem kl_idx {f : Nat → Nat} {x : Nat} : ∀ (k n : Nat), x ∈ kl f k → (kl f (k + n)).idxOf x = (kl f k).idxOf x
  | k, 0, _ => rfl
  | k, n + 1, h => by
    have ih := kl_idx k n h
    have hin : x ∈ kl f (k + n) := by rw [kl_mem] at h ⊢; obtain ⟨j, h1, h2⟩ := h; exact ⟨j, by omega, h2⟩
    have e1 : kl f (k + (n + 1)) = if f (k + n) ∈ kl f (k + n) then kl f (k + n) else kl f (k + n) ++ [f (k + n)] := rfl
    rw [e1]; split
    · exact ih
    · rw [List.idxOf_append, if_pos hin]; exact ih
def keyF (D : Nat → Nat → Option Nat) (g : Nat → Nat) (b k : Nat) : Nat := g k * 64 + (match D k b with
  | none => 63
  | some t => g t)
section
variable {s : yS} {p : Nat} {D : Nat → Nat → Option Nat} {M N : Nat}
/-- the other one's ways as D -/
def dwC (s : yS) (p : Nat) (D : Nat → Nat → Option Nat) (M N : Nat) : Prop := 1 ≤ M ∧ M ≤ 63 ∧ N ≤ 512 ∧ (sI s p 2) = nI M ∧ (sI s 103 1) = nI N ∧ ∀ k b, k < M → b < N → (sI s 107) (k * 512 + b) = dv (D k b) ∧ ∀ t, D k b = some t → t < M
theorem dwC.fr {s' : yS} (h : dwC s p D M N) (h1 : ∀ a i, (a = p ∧ i = 2) ∨ (a = 103 ∧ i = 1) ∨ a = 107 → sI s' a i = sI s a i) : dwC s' p D M N :=
  ⟨h.1, h.2.1, h.2.2.1, (h1 _ _ (by omega)).trans h.2.2.2.1, (h1 _ _ (by omega)).trans h.2.2.2.2.1, fun k b hk hb => ⟨(h1 _ _ (by omega)).trans (h.2.2.2.2.2 k b hk hb).1, (h.2.2.2.2.2 k b hk hb).2⟩⟩
def grC (s : yS) (g : Nat → Nat) (M : Nat) : Prop := ∀ k, k < M → (sI s 108) k = nI (g k)
theorem keyF_lt {g : Nat → Nat} {b k : Nat} (hg : ∀ k, k < M → g k < 63) (hk : k < M) (ht : ∀ t, D k b = some t → t < M) : keyF D g b k < 4096 := by
  unfold keyF
  have := hg k hk
  cases hd : D k b with
  | none => simp; omega
  | some t => have := hg t (ht t hd); simp; omega
theorem keyF_div {g : Nat → Nat} {b k : Nat} (hg : ∀ k, k < M → g k < 63) (ht : ∀ t, D k b = some t → t < M) : keyF D g b k / 64 = g k := by
  unfold keyF
  cases hd : D k b with
  | none => simp; omega
  | some t => have := hg t (ht t hd); simp; omega
theorem keyF_eq {g : Nat → Nat} {b k j : Nat} (hg : ∀ k, k < M → g k < 63) (htk : ∀ t, D k b = some t → t < M) (htj : ∀ t, D j b = some t → t < M) : keyF D g b k = keyF D g b j ↔ g k = g j ∧ ((D k b = none ∧ D j b = none) ∨ ∃ x y, D k b = some x ∧ D j b = some y ∧ g x = g y) := by
  unfold keyF
  cases hk : D k b with
  | none =>
    cases hj : D j b with
    | none => simp; omega
    | some y => have := hg y (htj y hj); simp; omega
  | some x =>
    have h1 := hg x (htk x hk)
    cases hj : D j b with
    | none => simp; omega
    | some y => have h2 := hg y (htj y hj); simp; omega
theorem c_keyOf {g : Nat → Nat} {k b : Nat} {Q : Int32 → Prop} (h : dwC s p D M N) (hgr : grC s g M) (hg : ∀ k, k < M → g k < 63) (hk : k < M) (hb : b < N) (H : Q (nI (keyF D g b k))) : W_X7_keyOf s (nI k) (nI b) Q := by
  obtain ⟨h0, hM, hN, h1, h2, h3⟩ := h
  have hkb := h3 k b hk hb
  have hgk := hg k hk
  unfold W_X7_keyOf
  rw [nI_mul, nI_addU, nI_ix (n := k * 512 + b) (by omega), hkb.1, nI_ix (n := k) (by omega), hgr k hk]
  refine ⟨nI_inU (by omega) (by omega), ?_⟩
  intro x2 e2
  subst e2
  refine ⟨nI_inU (by omega) (by omega), ?_⟩
  unfold keyF at H
  cases hd : D k b with
  | none =>
    rw [hd] at H
    refine ⟨fun hh => absurd rfl hh, fun _ => ?_⟩
    rw [nI_mul, nI_addU]; exact H
  | some t =>
    rw [hd] at H
    have ht := hkb.2 t hd
    have hgt := hg t ht
    refine ⟨fun _ => ?_, fun hh => absurd hh (nI_ne1 (by omega))⟩
    rw [show dv (some t) = nI t from rfl, nI_ix (n := t) (by omega), hgr t ht, nI_mul, nI_addU]
    exact ⟨nI_inU (by omega) (by omega), H⟩
def dGr (a i : Nat) : Prop := (a = 103 ∧ i = 2) ∨ a = 108 ∨ a = 109 ∨ a = 110
theorem c_divideBy {g : Nat → Nat} {G b : Nat} {Q : Int32 → yS → Prop} (hm : smC s p) (h : dwC s p D M N) (hgr : grC s g M) (hg : ∀ k, k < M → g k < 63) (hG : (sI s 103 2) = nI G) (hGb : G ≤ 63) (hb : b < N) (hkey : ∀ κ, κ < 4096 → (sI s 110) κ = -1)
    (H1 : G < (kl (keyF D g b) M).length → ∀ s', frM dGr s s' → (∀ κ, κ < 4096 → (sI s' 110) κ = -1) → grC s' (fun k => (kl (keyF D g b) M).idxOf (keyF D g b k)) M → (sI s' 103 2) = nI (kl (keyF D g b) M).length → Q 1 s')
    (H0 : (kl (keyF D g b) M).length ≤ G → ∀ s', frM dGr s s' → (∀ κ, κ < 4096 → (sI s' 110) κ = -1) → grC s' g M → (sI s' 103 2) = nI G → Q 0 s') : W_X7_divideBy s (nI b) Q := by
  obtain ⟨h0, hM, hN, h1, h2, h3⟩ := h
  have h : dwC s p D M N := ⟨h0, hM, hN, h1, h2, h3⟩
  have hp3 := hm.1
  have hkl : ∀ k, k < M → keyF D g b k < 4096 := fun k hk => keyF_lt hg hk (h3 k b hk hb).2
  unfold W_X7_divideBy
  intro P4 hP4
  suffices hL : ∀ (r k : Nat) (s3 : yS), k + r = M → frM dGr s s3 → grC s3 g M → (sI s3 103 2) = nI G → (∀ κ, κ < 4096 → (sI s3 110) κ = if κ ∈ kl (keyF D g b) k then nI ((kl (keyF D g b) k).idxOf κ) else -1) → (∀ j, j < k → (sI s3 109) j = nI ((kl (keyF D g b) k).idxOf (keyF D g b j))) → P4 (nI (kl (keyF D g b) k).length) (nI k) s3 from
    hL M 0 s (by omega) frM.rfl' hgr hG (fun κ hκ => by rw [hkey κ hκ]; unfold kl; simp) (fun j hj => by omega)
  intro r
  induction r with
  | zero =>
    intro k s3 hk F3 g3 G3 q3 n3
    have hkM : k = M := by omega
    subst hkM
    have hklen := kl_len (f := keyF D g b) k
    have hm3 : smC s3 p := ⟨hp3, (F3.2.2 _ _).trans hm.2⟩
    have d3 := h.fr (s' := s3) (fun a i ha => F3.1 _ _ (by unfold dGr; omega))
    apply hP4
    refine ⟨p, hm3.2, hm3.kd, ?_⟩
    rw [d3.2.2.2.1, nI_leU (by omega) (by omega)]
    refine ⟨fun _ => ?_, fun hh => absurd (by omega) hh⟩
    intro P66 hP66
    suffices hC : ∀ (q j : Nat) (s6 : yS), j + q = k → frM dGr s s6 → grC s6 g k → (sI s6 103 2) = nI G → (∀ κ, κ < 4096 → (∀ i, j ≤ i → i < k → keyF D g b i ≠ κ) → (sI s6 110) κ = -1) → (∀ i, i < k → (sI s6 109) i = nI ((kl (keyF D g b) k).idxOf (keyF D g b i))) → P66 (nI j) s6 by
      refine hC k 0 s3 (by omega) F3 g3 G3 (fun κ hκ hno => ?_) n3
      rw [q3 κ hκ, if_neg]
      rw [kl_mem]
      rintro ⟨i, hi, e⟩
      exact hno i (by omega) hi e
    intro q
    induction q with
    | zero =>
      intro j s6 hj F6 g6 G6 q6 n6
      have hm6 : smC s6 p := ⟨hp3, (F6.2.2 _ _).trans hm.2⟩
      have d6 := h.fr (s' := s6) (fun a i ha => F6.1 _ _ (by unfold dGr; omega))
      have q6' : ∀ κ, κ < 4096 → (sI s6 110) κ = -1 := fun κ hκ => q6 κ hκ (fun i h1 h2 => by omega)
      apply hP66
      refine ⟨p, hm6.2, hm6.kd, ?_⟩
      rw [d6.2.2.2.1, nI_leU (by omega) (by omega)]
      refine ⟨fun _ => ?_, fun hh => absurd (by omega) hh⟩
      intro P108 hP108
      rw [G6, nI_leU (by omega) (by omega)]
      refine ⟨fun hle => hP108 _ ⟨fun _ => ⟨Or.inl rfl, H0 hle s6 F6 q6' g6 G6⟩, fun hz => absurd rfl hz⟩, fun hgt => hP108 _ ⟨fun hz => absurd hz (by decide), fun _ => ⟨p, hm6.2, hm6.kd, ?_⟩⟩⟩
      rw [d6.2.2.2.1, nI_ix (n := k) (by omega)]
      refine ⟨⟨by decide, by decide, nI_nneg (by omega), by show 0 + k ≤ 63; omega, by show 0 + k ≤ 63; omega⟩, ?_⟩
      intro s11 e11 s13 e13
      refine ⟨Or.inr rfl, H1 (by omega) s13 ?_ (fun κ hκ => ?_) (fun i hi => ?_) ?_⟩
      · subst e13; subst e11
        refine F6.trans ⟨fun a i hd => ?_, fun a i _ => rfl, fun a i => rfl⟩
        rw [sI_w, if_neg (fun hh => hd (by unfold dGr; omega)), sI_wC_eq, if_neg (fun hh => hd (by unfold dGr; omega))]
      · subst e13; subst e11; rw [sI_w, if_neg (by omega), sI_wC_eq, if_neg (by omega)]; exact q6' κ hκ
      · subst e13; subst e11; rw [sI_w, if_neg (by omega), sI_wC_eq, if_pos rfl]
        unfold va_cpy
        rw [if_pos ⟨Nat.zero_le _, by show i < 0 + k; omega⟩]
        have := n6 i hi
        show sI s6 109 (0 + (i - 0)) = _
        rw [Nat.zero_add, Nat.sub_zero]; exact this
      · subst e13; rw [sI_w, if_pos ⟨rfl, rfl⟩]
    | succ q ihq =>
      intro j s6 hj F6 g6 G6 q6 n6
      have hm6 : smC s6 p := ⟨hp3, (F6.2.2 _ _).trans hm.2⟩
      have d6 := h.fr (s' := s6) (fun a i ha => F6.1 _ _ (by unfold dGr; omega))
      have hkj := hkl j (by omega)
      apply hP66
      refine ⟨p, hm6.2, hm6.kd, ?_⟩
      rw [d6.2.2.2.1, nI_leU (by omega) (by omega)]
      refine ⟨fun hh => absurd hh (by omega), fun _ => c_keyOf d6 g6 hg (by omega) hb ?_⟩
      rw [nI_ix (n := keyF D g b j) (by omega)]
      refine ⟨nI_inU hkj (by omega), ?_⟩
      intro s17 e17 x18 e18
      subst e18; rw [nI_s]
      refine ihq (j + 1) s17 (by omega) (by subst e17; exact F6.wI (by unfold dGr; omega)) (fun i hi => by subst e17; rw [sI_w, if_neg (by omega)]; exact g6 i hi) (by subst e17; rw [sI_w, if_neg (by omega)]; exact G6) (fun κ hκ hno => ?_) (fun i hi => by subst e17; rw [sI_w, if_neg (by omega)]; exact n6 i hi)
      subst e17
      by_cases c : κ = keyF D g b j
      · subst c; rw [sI_w, if_pos ⟨rfl, rfl⟩]
      · rw [sI_w, if_neg (by omega)]
        refine q6 κ hκ (fun i h1 h2 => ?_)
        by_cases ci : i = j
        · subst ci; exact fun e => c e.symm
        · exact hno i (by omega) h2
  | succ r ih =>
    intro k s3 hk F3 g3 G3 q3 n3
    have hklen := kl_len (f := keyF D g b) k
    have hm3 : smC s3 p := ⟨hp3, (F3.2.2 _ _).trans hm.2⟩
    have d3 := h.fr (s' := s3) (fun a i ha => F3.1 _ _ (by unfold dGr; omega))
    have hkk := hkl k (by omega)
    have hidx := fun x hx => kl_idx (f := keyF D g b) (x := x) k 1 hx
    apply hP4
    refine ⟨p, hm3.2, hm3.kd, ?_⟩
    rw [d3.2.2.2.1, nI_leU (by omega) (by omega)]
    refine ⟨fun hh => absurd hh (by omega), fun _ => c_keyOf d3 g3 hg (by omega) hb ?_⟩
    rw [nI_ix (n := keyF D g b k) (by omega), q3 _ hkk]
    refine ⟨nI_inU hkk (by omega), ?_⟩
    intro P45 hP45
    -- the set's new group
    have put : ∀ (s22 : yS), frM dGr s s22 → grC s22 g M → (sI s22 103 2) = nI G → (∀ κ, κ < 4096 → (sI s22 110) κ = if κ ∈ kl (keyF D g b) (k + 1) then nI ((kl (keyF D g b) (k + 1)).idxOf κ) else -1) → (∀ j, j < k → (sI s22 109) j = nI ((kl (keyF D g b) k).idxOf (keyF D g b j))) → P45 (nI (kl (keyF D g b) (k + 1)).length) s22 := by
      intro s22 F22 g22 G22 q22 n22
      apply hP45
      have hin : keyF D g b k ∈ kl (keyF D g b) (k + 1) := (kl_mem (k + 1)).mpr ⟨k, by omega, rfl⟩
      rw [q22 _ hkk, if_pos hin, nI_ix (n := k) (by omega)]
      refine ⟨nI_inU hkk (by omega), nI_inU (by omega) (by omega), ?_⟩
      intro s25 e25 x26 e26
      subst e26; rw [nI_s]
      refine ih (k + 1) s25 (by omega) (by subst e25; exact F22.wI (by unfold dGr; omega)) (fun i hi => by subst e25; rw [sI_w, if_neg (by omega)]; exact g22 i hi) (by subst e25; rw [sI_w, if_neg (by omega)]; exact G22) (fun κ hκ => by subst e25; rw [sI_w, if_neg (by omega)]; exact q22 κ hκ) (fun j hj => ?_)
      subst e25
      by_cases cj : j = k
      · subst cj; rw [sI_w, if_pos ⟨rfl, rfl⟩]
      · rw [sI_w, if_neg (by omega), n22 j (by omega), hidx _ ((kl_mem k).mpr ⟨j, by omega, rfl⟩)]
    by_cases hin : keyF D g b k ∈ kl (keyF D g b) k
    · have e : kl (keyF D g b) (k + 1) = kl (keyF D g b) k := by rw [kl, if_pos hin]
      rw [if_pos hin]
      refine ⟨fun _ => ?_, fun hh => absurd hh (nI_ne1 (by have := List.idxOf_lt_length_of_mem hin; omega))⟩
      have := put s3 F3 g3 G3 (by rw [e]; exact q3) n3
      rw [e] at this; exact this
    · have e : kl (keyF D g b) (k + 1) = kl (keyF D g b) k ++ [keyF D g b k] := by rw [kl, if_neg hin]
      rw [if_neg hin]
      refine ⟨fun hh => absurd rfl hh, fun _ => ⟨nI_inU hkk (by omega), ?_⟩⟩
      intro s28 e28 x29 e29
      subst e29; rw [nI_s]
      have hl : (kl (keyF D g b) (k + 1)).length = (kl (keyF D g b) k).length + 1 := by rw [e, List.length_append]; rfl
      have := put s28 (by subst e28; exact F3.wI (by unfold dGr; omega)) (fun i hi => by subst e28; rw [sI_w, if_neg (by omega)]; exact g3 i hi) (by subst e28; rw [sI_w, if_neg (by omega)]; exact G3) (fun κ hκ => ?_) (fun j hj => by subst e28; rw [sI_w, if_neg (by omega)]; exact n3 j hj)
      · rw [hl] at this; exact this
      · subst e28
        rw [e]
        by_cases c : κ = keyF D g b k
        · subst c
          rw [sI_w, if_pos ⟨rfl, rfl⟩, if_pos (by simp), List.idxOf_append, if_neg hin]; simp
        · rw [sI_w, if_neg (by omega), q3 κ hκ]
          by_cases hc : κ ∈ kl (keyF D g b) k
          · rw [if_pos hc, if_pos (by simp [hc]), List.idxOf_append, if_pos hc]
          · rw [if_neg hc, if_neg (by simp [hc, c])]
end

/-! ===== the other one reads a policy: tokens taken ===== -/
theorem upd_self {f : Nat → Int32} {i : Nat} : upd f i (f i) = f := by
  funext j; unfold upd; split
  · subst_vars; rfl
  · rfl
theorem wI_self {s : yS} {a i : Nat} : wI s a i (sI s a i) = s := by
  unfold wI sI
  rw [upd_self]
  have : va_up s.1 a (s.1 a) = s.1 := by
    funext b; unfold va_up; split
    · subst_vars; rfl
    · rfl
  rw [this]
theorem add0 (x : Int32) : x + 0 = x := by rw [← Int32.toInt_inj, i_add]; have := i_rng x; have : (0 : Int32).toInt = 0 := rfl; omega
/-- all tokens of the text are there -/
def tkA (s : yS) (T : Nat → Nat) (n : Nat) : Prop := n ≤ 8192 ∧ ∃ J, J ≤ n ∧ tkC s T n (J + 1) ∧ tkK (tkJ T n J) ≤ 1
def dT (a i : Nat) : Prop := a = 91 ∧ (i = 2 ∨ i = 3)
def dF (a i : Nat) : Prop := a = 91 ∧ i ≤ 3
theorem tkA.fr {s s' : yS} {T : Nat → Nat} {n : Nat} (h : tkA s T n) (h1 : ∀ i, sI s' 92 i = sI s 92 i) (h2 : ∀ i, sI s' 93 i = sI s 93 i) (h3 : ∀ i, sI s' 94 i = sI s 94 i) (h4 : ∀ i, sJ s' 95 i = sJ s 95 i) : tkA s' T n := by
  obtain ⟨h0, J, q1, q2, q3⟩ := h
  refine ⟨h0, J, q1, ⟨(h1 3).trans q2.1, fun i hi => ?_⟩, q3⟩
  rw [h2, h3, h4]; exact q2.2 i hi
theorem tkA.dT {s s' : yS} {T : Nat → Nat} {n : Nat} (h : tkA s T n) (k : frM dT s s') : tkA s' T n :=
  h.fr (fun i => k.1 _ _ (fun hh => by have := hh.1; omega)) (fun i => k.1 _ _ (fun hh => by have := hh.1; omega)) (fun i => k.1 _ _ (fun hh => by have := hh.1; omega)) (fun i => k.2.1 _ _ (fun hh => by have := hh.1; omega))
section
variable {T : Nat → Nat} {n : Nat} {s : yS} {j : Nat}
theorem tkA.at (h : tkA s T n) (o : okJ T n j) : j ≤ 8192 ∧ (sI s 93) j = nI (tkK (tkJ T n j)) ∧ (sI s 94) j = nI (tkP (tkJ T n j)) ∧ (sJ s 95) j = vC (tkJ T n j) := by
  obtain ⟨h0, J, q1, q2, q3⟩ := h
  have hj : j ≤ J := by
    by_cases c : j ≤ J
    · exact c
    · have := o J (by omega); omega
  exact ⟨by omega, q2.2 j (by omega)⟩
/-- the fault as it is kept -/
theorem pRef_bd (t : Tok) : 1 ≤ (pRef t).1 ∧ (pRef t).1 ≤ 8 := by
  unfold pRef
  split
  · exact ⟨by simp, by simp⟩
  · split
    · exact ⟨by simp, by simp⟩
    · exact ⟨by simp, by simp⟩
def erC (s : yS) (e : Nat × Nat) : Prop := (sI s 91 0) = nI e.1 ∧ (sI s 91 1) = nI e.2 ∧ 1 ≤ e.1 ∧ e.1 ≤ 8
theorem c_refuse {Q : Int32 → yS → Prop} (h : tkA s T n) (ha : (sI s 91 2) = nI j) (o : okJ T n j) (H : ∀ s', frM dF s s' → (sI s' 91 2) = nI j → erC s' (pRef (tkJ T n j)) → Q 0 s') : W_X4_refuse s Q := by
  obtain ⟨hj, h1, h2, h3⟩ := h.at o
  have h6 := (tkJ_cases T n j).1
  unfold W_X4_refuse
  rw [ha, nI_ix (by omega), h1]
  refine ⟨nI_inU (by omega) (by omega), ?_⟩
  intro x2 e2
  subst e2
  intro P32 hP32
  have go : ∀ y : Nat, y = (pRef (tkJ T n j)).1 → P32 (nI y) := by
    intro y hy
    apply hP32
    intro s4 e4
    have a4 : (sI s4 91 2) = nI j := by subst e4; exact ha
    have p4 : (sI s4 94) j = nI (tkP (tkJ T n j)) := by subst e4; exact h2
    rw [a4, nI_ix (by omega), p4]
    refine ⟨nI_inU (by omega) (by omega), ?_⟩
    intro s6 e6
    refine H s6 ?_ ?_ ⟨?_, ?_, pRef_bd _⟩
    · subst e6; subst e4; exact (frM.rfl'.wI (show dF _ _ from ⟨rfl, by omega⟩)).wI (show dF _ _ from ⟨rfl, by omega⟩)
    · subst e6; rw [sI_w, if_neg (by omega)]; exact a4
    · subst e6; subst e4; rw [sI_w, if_neg (by omega), sI_w, if_pos ⟨rfl, rfl⟩, hy]
    · subst e6; rw [sI_w, if_pos ⟨rfl, rfl⟩]; rfl
  have z1 : nI (tkK (tkJ T n j)) = 1 ↔ tkK (tkJ T n j) = 1 := by rw [nI_1U, nI_inj (by omega) (by omega)]
  have z0 : nI (tkK (tkJ T n j)) = 0 ↔ tkK (tkJ T n j) = 0 := by rw [nI_0U, nI_inj (by omega) (by omega)]
  rw [z1, z0]
  refine ⟨fun k1 => ⟨fun k0 => go 2 ?_, fun k0 => go 3 ?_⟩, fun k1 => go 1 ?_⟩
  · unfold pRef; rw [if_neg k1, if_neg k0]
  · unfold pRef; rw [if_neg k1, if_pos k0]
  · unfold pRef; rw [if_pos k1]
theorem c_take {k : Nat} {Q : Int32 → yS → Prop} (h : tkA s T n) (ha : (sI s 91 2) = nI j) (o : okJ T n j) (hk : k ≤ 6) (H1 : tkK (tkJ T n j) = k → Q 1 (wI s 91 2 (nI (j + 1)))) (H0 : tkK (tkJ T n j) ≠ k → Q 0 s) : W_X4_take s (nI k) Q := by
  obtain ⟨hj, h1, h2, h3⟩ := h.at o
  have h6 := (tkJ_cases T n j).1
  unfold W_X4_take
  rw [ha, nI_ix (by omega), h1, nI_inj (by omega) (by omega), add0, nI_s]
  refine ⟨nI_inU (by omega) (by omega), ?_⟩
  intro P21 hP21
  refine ⟨fun hh => hP21 0 ⟨fun _ s3 e3 => ⟨Or.inl rfl, ?_⟩, fun hz => absurd rfl hz⟩, fun hh => hP21 1 ⟨fun hz => absurd hz (by decide), fun _ s5 e5 => ⟨Or.inr rfl, by subst e5; exact H1 hh⟩⟩⟩
  rw [← ha, wI_self] at e3; subst e3; exact H0 hh
theorem c_isAt {k : Nat} {Q : Int32 → Prop} (h : tkA s T n) (ha : (sI s 91 2) = nI j) (o : okJ T n j) (hk : k ≤ 6) (H1 : tkK (tkJ T n j) = k → Q 1) (H0 : tkK (tkJ T n j) ≠ k → Q 0) : W_X4_isAt s (nI k) Q := by
  obtain ⟨hj, h1, h2, h3⟩ := h.at o
  have h6 := (tkJ_cases T n j).1
  unfold W_X4_isAt
  rw [ha, nI_ix (by omega), h1, nI_inj (by omega) (by omega)]
  exact ⟨nI_inU (by omega) (by omega), fun hh => H0 hh, fun hh => H1 hh⟩
theorem c_takeWord {w : Nat} {Q : Int32 → yS → Prop} (h : tkA s T n) (ha : (sI s 91 2) = nI j) (o : okJ T n j) (hw : w < 12) (H1 : isW (tkJ T n j) w = true → Q 1 (wI s 91 2 (nI (j + 1)))) (H0 : isW (tkJ T n j) w = false → Q 0 s) : W_X4_takeWord s (nI w) Q := by
  obtain ⟨hj, h1, h2, h3⟩ := h.at o
  have hc := tkJ_cases T n j
  dsimp only at hc
  unfold W_X4_takeWord
  rw [ha, nI_ix (by omega), h1, nI_inj (by omega) (by omega), add0, nI_s]
  refine ⟨nI_inU (by omega) (by omega), ?_⟩
  intro P40 hP40
  have no : isW (tkJ T n j) w = false → P40 0 := by
    intro hh
    refine hP40 0 ⟨fun _ s3 e3 => ⟨Or.inl rfl, ?_⟩, fun hz => absurd rfl hz⟩
    rw [← ha, wI_self] at e3; subst e3; exact H0 hh
  have yes : isW (tkJ T n j) w = true → P40 1 := fun hh => hP40 1 ⟨fun hz => absurd hz (by decide), fun _ s5 e5 => ⟨Or.inr rfl, by subst e5; exact H1 hh⟩⟩
  refine ⟨fun hh => no (by unfold isW; simp [hh]), fun hh => ⟨nI_inU (by omega) (by omega), ?_⟩⟩
  have hb : 0 ≤ tkV (tkJ T n j) ∧ tkV (tkJ T n j) < 12 := by
    have := hc.2.2.2.2.2.2.1 hh
    have h12 : wdL.idxOf (tkN (tkJ T n j)) < 12 := List.idxOf_lt_length_of_mem this.1
    omega
  have hv : vC (tkJ T n j) = Int64.ofInt (tkV (tkJ T n j)) := by unfold vC; rw [if_neg (by omega)]
  rw [h3, hv, lgc_eq0, oJ_nI (by omega), oJ_toInt (by omega) (by omega), oJ_toInt (by omega) (by omega)]
  exact ⟨fun h4 => no (by unfold isW; simp [hh]; omega), fun h4 => yes (by unfold isW; simp [hh]; omega)⟩
theorem c_takeNumber {lo hi : Int32} {Q : Int32 → yS → Prop} (h : tkA s T n) (ha : (sI s 91 2) = nI j) (o : okJ T n j)
    (H1 : tkK (tkJ T n j) = 4 → lo.toInt ≤ tkV (tkJ T n j) → tkV (tkJ T n j) ≤ hi.toInt → ∀ s', frM dT s s' → (sI s' 91 2) = nI (j + 1) → (sI s' 91 3) = Int32.ofInt (tkV (tkJ T n j)) → Q 1 s')
    (H0 : ¬ (tkK (tkJ T n j) = 4 ∧ lo.toInt ≤ tkV (tkJ T n j) ∧ tkV (tkJ T n j) ≤ hi.toInt) → ∀ s', frM dT s s' → (sI s' 91 2) = nI j → Q 0 s') : W_X4_takeNumber s lo hi Q := by
  obtain ⟨hj, h1, h2, h3⟩ := h.at o
  have hc := tkJ_cases T n j
  dsimp only at hc
  unfold W_X4_takeNumber
  rw [ha, nI_ix (by omega), h1, nI_inj (by omega) (by omega), h3]
  refine ⟨nI_inU (by omega) (by omega), ?_⟩
  intro x2 e2
  refine ⟨nI_inU (by omega) (by omega), ?_⟩
  intro P48 hP48
  have no : ¬ (tkK (tkJ T n j) = 4 ∧ lo.toInt ≤ tkV (tkJ T n j) ∧ tkV (tkJ T n j) ≤ hi.toInt) → P48 0 := by
    intro hh
    apply hP48
    intro s5 e5
    have a5 : (sI s5 91 2) = nI j := by subst e5; exact ha
    refine ⟨fun _ s6 e6 => ⟨Or.inl rfl, H0 hh s6 ?_ ?_⟩, fun hz => absurd rfl hz⟩
    · subst e6; subst e5; exact (frM.rfl'.wI (show dT _ _ from ⟨rfl, by omega⟩)).wI (show dT _ _ from ⟨rfl, by omega⟩)
    · subst e6; rw [sI_w, if_pos ⟨rfl, rfl⟩, add0]; exact a5
  refine ⟨fun hh => no (fun h4 => hh h4.1), fun h4 => ?_⟩
  have hb := hc.2.2.2.2.2.2.2.1 h4
  have hv : vC (tkJ T n j) = Int64.ofInt (tkV (tkJ T n j)) := by unfold vC; rw [if_neg (by omega)]
  rw [hv] at e2
  subst e2
  rw [lgc_lt0, lgc_gt0, oJ_toInt (by omega) (by omega), Int32.toInt_toInt64, Int32.toInt_toInt64]
  refine ⟨fun hh => no (by omega), fun hh => ⟨fun h5 => no (by omega), fun h5 => ?_⟩⟩
  apply hP48
  intro s5 e5
  rw [oI32 hb.1 hb.2] at e5
  have a5 : (sI s5 91 2) = nI j := by subst e5; exact ha
  refine ⟨fun hz => absurd hz (by decide), fun _ s8 e8 => ⟨Or.inr rfl, H1 h4 (by omega) (by omega) s8 ?_ ?_ ?_⟩⟩
  · subst e8; subst e5; exact (frM.rfl'.wI (show dT _ _ from ⟨rfl, by omega⟩)).wI (show dT _ _ from ⟨rfl, by omega⟩)
  · subst e8; rw [sI_w, if_pos ⟨rfl, rfl⟩, a5, nI_s]
  · subst e8; subst e5; rw [sI_w, if_neg (by omega), sI_w, if_pos ⟨rfl, rfl⟩]
theorem c_takeNewName {a N : Nat} {l : List (List Nat)} {Q : Int32 → yS → Prop} (h : tkA s T n) (ha : (sI s 91 2) = nI j) (o : okJ T n j) (ha2 : a = 97 ∨ a = 98) (hl : l.length < N) (hN : N ≤ 24) (hn : ∀ (k : Nat) (h : k < l.length), sJ s a k = Int64.ofInt (cN 32 0 l[k])) (hnm : ∀ x ∈ l, isNm x)
    (H1 : tkK (tkJ T n j) = 5 → ¬ tkN (tkJ T n j) ∈ l → Q 1 (wI (wJ s a l.length (Int64.ofInt (cN 32 0 (tkN (tkJ T n j))))) 91 2 (nI (j + 1))))
    (H0 : ¬ (tkK (tkJ T n j) = 5 ∧ ¬ tkN (tkJ T n j) ∈ l) → ∀ v, Q 0 (wJ s a l.length v)) : W_X4_takeNewName s a N (nI l.length) Q := by
  obtain ⟨hj, h1, h2, h3⟩ := h.at o
  have hc := tkJ_cases T n j
  dsimp only at hc
  unfold W_X4_takeNewName
  rw [ha, nI_ix (n := j) (by omega), h1, nI_inj (by omega) (by omega), h3]
  refine ⟨nI_inU (by omega) (by omega), ?_⟩
  intro P21 hP21
  have main : ∀ y2 : Int32, (y2 = 0 ∨ y2 = 1) → (y2 = 1 ↔ tkK (tkJ T n j) = 5) → P21 y2 := by
    intro y2 hy hy5
    apply hP21
    intro P25 hP25
    suffices hL : ∀ (m k : Nat) (r : Int32), k + m = l.length → (r = 0 ∨ r = 1) → (r = 1 ↔ tkK (tkJ T n j) = 5 ∧ ∀ (i : Nat) (h : i < l.length), i < k → l[i] ≠ tkN (tkJ T n j)) → P25 r (nI k) from
      hL l.length 0 y2 (by omega) hy ⟨fun hh => ⟨hy5.mp hh, fun i _ hi => by omega⟩, fun hh => hy5.mpr hh.1⟩
    intro m
    induction m with
    | zero =>
      intro k r hk hr hq
      apply hP25
      rw [nI_leU (by omega) (by omega)]
      refine ⟨fun _ => ⟨nI_inU (by omega) (by omega), nI_inU hl (by omega), ?_⟩, fun hh => absurd (by omega) hh⟩
      intro s7 e7
      rw [nI_ix (n := l.length) (by omega)] at e7
      have hin : (∀ (i : Nat) (h : i < l.length), i < k → l[i] ≠ tkN (tkJ T n j)) ↔ ¬ tkN (tkJ T n j) ∈ l := by
        constructor
        · intro h1 h2
          obtain ⟨i, hi, e⟩ := List.getElem_of_mem h2
          exact h1 i hi (by omega) e
        · intro h1 i hi _ e
          exact h1 (e ▸ List.getElem_mem hi)
      rw [hin] at hq
      have a7 : (sI s7 91 2) = nI j := by subst e7; exact ha
      refine ⟨fun hz s8 e8 => ⟨hr, ?_⟩, fun hz s10 e10 => ⟨hr, ?_⟩⟩
      · rw [add0, wI_self] at e8
        subst e8; subst e7; rw [hz]
        exact H0 (fun hh => by have := hq.mpr hh; rw [hz] at this; exact absurd this (by decide)) _
      · have hr1 : r = 1 := hr.resolve_left hz
        have hh := hq.mp hr1
        rw [a7, nI_s] at e10
        have hv : vC (tkJ T n j) = Int64.ofInt (cN 32 0 (tkN (tkJ T n j))) := by unfold vC; rw [if_pos hh.1]
        rw [hv] at e7
        subst e10; subst e7; rw [hr1]; exact H1 hh.1 hh.2
    | succ m ih =>
      intro k r hk hr hq
      have hkl : k < l.length := by omega
      have next : ∀ y : Int32, (y = 0 ∨ y = 1) → (y = 1 ↔ tkK (tkJ T n j) = 5 ∧ ∀ (i : Nat) (h : i < l.length), i < k + 1 → l[i] ≠ tkN (tkJ T n j)) → ∀ x : Int32, x = nI k + 1 → P25 y x := by
        intro y hy hyq x ex; subst ex; rw [nI_s]; exact ih (k + 1) y (by omega) hy hyq
      apply hP25
      rw [nI_leU (by omega) (by omega)]
      refine ⟨fun hh => absurd hh (by omega), fun _ => ?_⟩
      intro P60 hP60
      refine ⟨fun hz => hP60 0 (next 0 (Or.inl rfl) ⟨fun hh => absurd hh (by decide), fun hh => ?_⟩), fun hz => ⟨nI_inU (by omega) (by omega), nI_inU (by omega) (by omega), ?_⟩⟩
      · exfalso
        have := hq.mpr ⟨hh.1, fun i hi hik => hh.2 i hi (by omega)⟩
        rw [hz] at this; exact absurd this (by decide)
      · have hh := hq.mp (hr.resolve_left hz)
        have hv : vC (tkJ T n j) = Int64.ofInt (cN 32 0 (tkN (tkJ T n j))) := by unfold vC; rw [if_pos hh.1]
        have hx := hc.2.2.2.2.1 (Or.inl hh.1)
        rw [nI_ix (n := k) (by omega), hn k hkl, hv, lgc_eq0, Int64.toInt_inj, c32_inj (hnm _ (List.getElem_mem hkl)) hx]
        refine ⟨fun he => hP60 0 (next 0 (Or.inl rfl) ⟨fun h0 => absurd h0 (by decide), fun h0 => absurd he (h0.2 k hkl (by omega))⟩), fun he => hP60 1 (next 1 (Or.inr rfl) ⟨fun _ => ⟨hh.1, fun i hi hik => ?_⟩, fun _ => rfl⟩)⟩
        by_cases ci : i = k
        · subst ci; exact he
        · exact hh.2 i hi (by omega)
  exact ⟨fun hh => main 0 (Or.inl rfl) ⟨fun h => absurd h (by decide), fun h => absurd h hh⟩, fun hh => main 1 (Or.inr rfl) ⟨fun _ => hh, fun _ => rfl⟩⟩
end

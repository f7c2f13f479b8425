/-! ===== the other one looks names up ===== -/
def LL (ps : PS) : List (List Lk) := (pR ps).map (lkR (pG ps)) ++ (pW ps).mapIdx (lkW (pG ps))
theorem lkOf_LL (ps : PS) : lkOf ps = (LL ps).flatten := by
  unfold lkOf LL; rw [List.flatten_append, List.flatMap_def]
theorem LL_len (ps : PS) : (LL ps).length = (qL ps).length := by
  unfold LL; rw [qL_len, List.length_append, List.length_map, List.length_mapIdx]
theorem flat_none {α β : Type} {f : α → Option β} {L : List (List α)} (h : ∀ (k : Nat) (hk : k < L.length), ∀ l ∈ L[k], f l = none) : L.flatten.findSome? f = none := by
  rw [List.findSome?_eq_none_iff]
  intro x hx
  rw [List.mem_flatten] at hx
  obtain ⟨l, hl, hxl⟩ := hx
  obtain ⟨k, hk, e⟩ := List.getElem_of_mem hl
  exact h k hk x (e ▸ hxl)
theorem flat_some {α β : Type} {f : α → Option β} {b : β} : ∀ (L : List (List α)) (q : Nat) (hq : q < L.length) (t : Nat) (ht : t < L[q].length), (∀ (k : Nat) (hk : k < L.length), k < q → ∀ l ∈ L[k], f l = none) → (∀ (i : Nat) (hi : i < L[q].length), i < t → f L[q][i] = none) → f L[q][t] = some b → L.flatten.findSome? f = some b
  | [], q, hq, _, _, _, _, _ => by simp at hq
  | l :: L, 0, hq, t, ht, h1, h2, h3 => by
    have h2 : ∀ (i : Nat) (hi : i < l.length), i < t → f l[i] = none := h2
    have h3 : f (l[t]'ht) = some b := h3
    rw [List.flatten_cons, List.findSome?_append]
    rw [findSome_take l t ht h2 (by rw [h3]; simp), h3]; rfl
  | l :: L, q + 1, hq, t, ht, h1, h2, h3 => by
    rw [List.flatten_cons, List.findSome?_append]
    have h0 : l.findSome? f = none := by
      rw [List.findSome?_eq_none_iff]
      exact h1 0 (by simp) (by omega)
    rw [h0]
    have := flat_some L q (by simp at hq; omega) t ht (fun k hk hkq => h1 (k + 1) (by simp; omega) (by omega)) h2 h3
    rw [this]; rfl
/-- the subject of a guard: 0 to 2 an argument, 3 on a counter -/
def sbj (ps : PS) (d : Gd) : Nat := if gC d then 3 + ((pC ps).map Prod.fst).idxOf (gN' d) else gW d
/-- which calls have rules -/
def ruC (s : yS) (p : Nat) (rs : List Rl) : Prop := ∀ c, c < 16 → (bt (sI s p 6) c = true ↔ ∃ r ∈ rs, rC r = -1 ∨ rC r = (c : Int))
def dN (p a i : Nat) : Prop := (a = 91 ∧ i ≤ 1) ∨ (a = p ∧ i = 6) ∨ a = p + 2 ∨ a = p + 4 ∨ a = p + 6
section
variable {s : yS} {p : Nat}
theorem c_refuseLate {w v : Int32} {Q : Int32 → yS → Prop} (H : Q 0 (wI (wI s 91 0 w) 91 1 v)) : W_X4_refuseLate s w v Q := by
  unfold W_X4_refuseLate
  intro s1 e1 s2 e2; subst e2; subst e1; exact H
theorem k_firstWay {ps : PS} {Q : Int32 → Prop} (hc : csC s p (pC ps) (pR ps)) (hn : nsC s p (pC ps).length (pR ps).length (pN ps) (pW ps)) (hl : lenP ps) (hN : pN ps ≠ []) (H : Q (nI (pR ps).length)) : W_X3_firstWay s p Q := by
  have l1 := hl.1
  have hpos : 0 < (pN ps).length := List.length_pos_iff.mpr hN
  unfold W_X3_firstWay
  rw [hc.1, nI_ix (n := (pC ps).length) (by omega)]
  refine ⟨nI_inU (by omega) (by omega), ?_⟩
  have := (hn.2 0 hpos).2
  have e : (pW ps).countP (fun w => decide (wO w < 0)) = 0 := by rw [List.countP_eq_zero]; intro w _; simp
  rw [e] at this
  rw [show (pC ps).length = (pC ps).length + 0 from rfl, this]; exact H
theorem c_close {ps : PS} {Q : yS → Prop} (hp : p = 3 ∨ p = 20) (hps : psC s p ps) (hl : lenP ps) (hwf : wfI ps) (hN : pN ps ≠ [])
    (H : ∀ s', frM (dN p) s s' → (∀ i, sI s' 91 i = sI s 91 i) → (∀ i, sI s' (p + 4) i = sI s (p + 4) i) → (∀ i, sI s' (p + 6) i = sI s (p + 6) i) → psC s' p ps → ruC s' p (pR ps) → (sI s' (p + 2)) ((pC ps).length + (pN ps).length) = nI ((pR ps).length + (pW ps).length) → Q s') : W_X3_close s p Q := by
  obtain ⟨l1, l2, l3, l4⟩ := hl
  have hl : lenP ps := ⟨l1, l2, l3, l4⟩
  unfold W_X3_close
  have c0 : sI s p 0 = nI (pC ps).length := hps.1.1
  have c1 : sI s p 1 = nI (pN ps).length := hps.2.1.1
  have c4 : sI s p 4 = nI ((pR ps).length + (pW ps).length) := by have := hps.2.2.2.2.1.1; rw [qL_len] at this; exact this
  rw [c0, c1, c4, nI_addU, nI_ix (n := (pC ps).length + (pN ps).length) (by omega)]
  refine ⟨nI_inU (by omega) (by omega), ?_⟩
  intro s2 e2 s3 e3 P25 hP25
  have f3 : ∀ a i, ¬ (a = p ∧ i = 6) → ¬ (a = p + 2 ∧ i = (pC ps).length + (pN ps).length) → sI s3 a i = sI s a i := by
    intro a i h1 h2; subst e3; subst e2; rw [sI_w, if_neg h1, sI_w, if_neg h2]
  have f3J : ∀ a i, sJ s3 a i = sJ s a i := by intro a i; subst e3; subst e2; rfl
  have f3R : ∀ a i, sR s3 a i = sR s a i := by intro a i; subst e3; subst e2; rfl
  have v3 : sI s3 (p + 2) ((pC ps).length + (pN ps).length) = nI ((pR ps).length + (pW ps).length) := by
    subst e3; subst e2; rw [sI_w, if_neg (by omega), sI_w, if_pos ⟨rfl, rfl⟩]
  have z3 : sI s3 p 6 = 0 := by subst e3; rw [sI_w, if_pos ⟨rfl, rfl⟩]
  clear e3 e2
  suffices hL : ∀ (m k : Nat) (s5 : yS), k + m = (pR ps).length → (∀ a i, ¬ (a = p ∧ i = 6) → sI s5 a i = sI s3 a i) → (∀ a i, sJ s5 a i = sJ s3 a i) → (∀ a i, sR s5 a i = sR s3 a i) → (∀ c, c < 16 → (bt (sI s5 p 6) c = true ↔ ∃ (i : Nat) (hi : i < (pR ps).length), i < k ∧ (rC (pR ps)[i] = -1 ∨ rC (pR ps)[i] = (c : Int)))) → P25 (nI k) s5 by
    refine hL (pR ps).length 0 s3 (by omega) (fun _ _ _ => rfl) (fun _ _ => rfl) (fun _ _ => rfl) (fun c hc => ?_)
    rw [z3, bt_0]
    exact ⟨fun hh => absurd hh (by decide), fun ⟨i, _, hi, _⟩ => by omega⟩
  intro m
  have psOf : ∀ s5 : yS, (∀ a i, ¬ (a = p ∧ i = 6) → sI s5 a i = sI s3 a i) → (∀ a i, sJ s5 a i = sJ s3 a i) → psC s5 p ps := by
    intro s5 g5 g5J
    have f5 : ∀ a i, ¬ (a = p ∧ i = 6) → ¬ (a = p + 2 ∧ i = (pC ps).length + (pN ps).length) → sI s5 a i = sI s a i := fun a i h1 h2 => (g5 a i h1).trans (f3 a i h1 h2)
    have f5J : ∀ a i, sJ s5 a i = sJ s a i := fun a i => (g5J a i).trans (f3J a i)
    obtain ⟨b1, b2, b3, b4, b5, b6⟩ := hps
    exact ⟨b1.fr (f5 _ _ (by omega) (by omega)) (fun a i ha hi => f5 _ _ (by omega) (by omega)) (fun i hi => f5J _ _), b2.fr (f5 _ _ (by omega) (by omega)) (fun i hi => f5 _ _ (by omega) (by omega)) (fun i hi => f5J _ _), b3.fr (fun i hi => f5 _ _ (by omega) (by omega)), b4.fr (fun i hi => f5J _ _) (fun i hi => f5 _ _ (by omega) (by omega)), b5.fr (f5 _ _ (by omega) (by omega)) (fun i hi => f5 _ _ (by omega) (by omega)) (fun i hi => f5 _ _ (by omega) (by omega)), b6.fr (f5 _ _ (by omega) (by omega)) (fun a i ha hi => f5 _ _ (by omega) (by omega)) (fun i hi => f5J _ _)⟩
  induction m with
  | zero =>
    intro k s5 hk g5 g5J g5R hb
    have p5 := psOf s5 g5 g5J
    apply hP25
    refine k_firstWay p5.1 p5.2.1 hl hN ?_
    rw [nI_leU (by omega) (by omega)]
    refine ⟨fun _ => H s5 ⟨fun a i hd => ?_, fun a i _ => (g5J a i).trans (f3J a i), fun a i => (g5R a i).trans (f3R a i)⟩ (fun i => (g5 _ _ (by omega)).trans (f3 _ _ (by omega) (by omega))) (fun i => (g5 _ _ (by omega)).trans (f3 _ _ (by omega) (by omega))) (fun i => (g5 _ _ (by omega)).trans (f3 _ _ (by omega) (by omega))) p5 (fun c hc => ?_) ((g5 _ _ (by omega)).trans v3), fun hh => absurd (by omega) hh⟩
    · exact (g5 a i (fun hh => hd (by unfold dN; omega))).trans (f3 a i (fun hh => hd (by unfold dN; omega)) (fun hh => hd (by unfold dN; omega)))
    · rw [hb c hc]
      constructor
      · rintro ⟨i, hi, _, hh⟩; exact ⟨_, List.getElem_mem hi, hh⟩
      · rintro ⟨r, hr, hh⟩
        obtain ⟨i, hi, e⟩ := List.getElem_of_mem hr
        exact ⟨i, hi, by omega, by rw [e]; exact hh⟩
  | succ m ih =>
    intro k s5 hk g5 g5J g5R hb
    have p5 := psOf s5 g5 g5J
    have hkl : k < (pR ps).length := by omega
    apply hP25
    refine k_firstWay p5.1 p5.2.1 hl hN ?_
    rw [nI_leU (by omega) (by omega)]
    refine ⟨fun hh => absurd hh (by omega), fun _ => ⟨nI_inU (by omega) (by omega), ?_⟩⟩
    have hcl : sI s5 (p + 3) k = nI (ccl (rC (pR ps)[k])) := by
      have := (p5.2.2.2.2.1.2.2 k (by rw [qL_len]; omega)).1
      have e : (qL ps)[k]'(by rw [qL_len]; omega) = (rC (pR ps)[k], rF (pR ps)[k], rM (pR ps)[k]) := by
        unfold qL; rw [List.getElem_append_left (by rw [List.length_map]; exact hkl), List.getElem_map]
      rw [e] at this; exact this
    have hrc := hwf.2.2.2.2.2.1 _ (List.getElem_mem hkl)
    have hccb : ccl (rC (pR ps)[k]) ≤ 16 := by unfold ccl; split <;> omega
    rw [nI_ix (n := k) (by omega), hcl]
    intro P62 hP62
    have go : ∀ y8 : Int32, (∀ c, c < 16 → (bt y8 c = true ↔ (rC (pR ps)[k] = -1 ∨ rC (pR ps)[k] = (c : Int)))) → P62 y8 := by
      intro y8 hy
      apply hP62
      intro s9 e9 x10 e10
      subst e10; rw [nI_s]
      refine ih (k + 1) s9 (by omega) (fun a i hh => ?_) (fun a i => ?_) (fun a i => ?_) (fun c hc => ?_)
      · subst e9; rw [sI_w, if_neg hh]; exact g5 a i hh
      · subst e9; exact g5J a i
      · subst e9; exact g5R a i
      · subst e9; rw [sI_w, if_pos ⟨rfl, rfl⟩, bt_or, Bool.or_eq_true, hb c hc, hy c hc]
        constructor
        · rintro (⟨i, hi, hik, hh⟩ | hh)
          · exact ⟨i, hi, by omega, hh⟩
          · exact ⟨k, hkl, by omega, hh⟩
        · rintro ⟨i, hi, hik, hh⟩
          by_cases ci : i = k
          · subst ci; exact Or.inr hh
          · exact Or.inl ⟨i, hi, by omega, hh⟩
    rw [nI_inj (by omega) (by omega)]
    refine ⟨fun hne => ⟨nI_inU (by omega) (by omega), go _ (fun c hc => ?_)⟩, fun he => go _ (fun c hc => ?_)⟩
    · have h1 : rC (pR ps)[k] ≠ -1 := by intro hh; apply hne; unfold ccl; rw [if_pos hh]
      have h2 : ccl (rC (pR ps)[k]) = (rC (pR ps)[k]).toNat := by unfold ccl; rw [if_neg h1]
      rw [bt_one (by omega), h2, decide_eq_true_iff]
      constructor
      · intro hh; right; omega
      · intro hh; omega
    · have h1 : rC (pR ps)[k] = -1 := by
        unfold ccl at he; split at he
        · assumption
        · omega
      rw [bt_65535 (by omega)]
      simp [h1]; omega
end

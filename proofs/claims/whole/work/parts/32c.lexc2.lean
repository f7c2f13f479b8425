section
variable {s : yS} {T : Nat → Nat} {n : Nat}
def gU (T : Nat → Nat) (q e : Nat) (v : Int) (V m k : Nat) : Prop := q < e ∧ (slT T (e - q) q).all isDg = (slT T m k).all isDg ∧ dvL V (slT T m k) = dvL 0 (slT T (e - q) q) ∧ v ≤ 1099511627776 ∧ (v = V ∨ (v = 1099511627776 ∧ 1099511627776 ≤ V))
theorem min40 {w : Int} (h1 : -1000 ≤ w) (h2 : w < 20000000000000) : (if Int64.ofInt w < (1099511627776 : Int64) then Int64.ofInt w else 1099511627776) = Int64.ofInt (if w < 1099511627776 then w else 1099511627776) := by
  have e : Int64.ofInt w < (1099511627776 : Int64) ↔ w < 1099511627776 := by
    rw [Int64.lt_iff_toInt_lt, oJ_toInt (by omega) (by omega), show ((1099511627776 : Int64)).toInt = 1099511627776 from rfl]
  by_cases c : w < 1099511627776
  · rw [if_pos (e.mpr c), if_pos c]
  · rw [if_neg (fun h => c (e.mp h)), if_neg c]; rfl
theorem k8_addNumber {p e : Nat} {Q : yS → Prop} (h : txC s T n) (h1 : p < e) (h2 : e ≤ n)
    (H1 : T p = 45 → W_X8_add s (nI (tkK (nuTok p e true (slT T (e - (p + 1)) (p + 1))))) (nI p) (vC (nuTok p e true (slT T (e - (p + 1)) (p + 1)))) Q)
    (H0 : T p ≠ 45 → W_X8_add s (nI (tkK (nuTok p e false (slT T (e - p) p)))) (nI p) (vC (nuTok p e false (slT T (e - p) p))) Q) : W_X8_addNumber s 1 8192 (nI p) (nI e) Q := by
  have hn := h.1
  unfold W_X8_addNumber
  refine ⟨nI_inU (by omega) (by omega), ?_⟩
  intro P13 hP13
  rw [nI_ix (by omega), h.2.1 p (by omega), bC_eq (h.2.2 p) (by omega)]
  have main : ∀ (y2 : Int32) (neg : Bool) (q : Nat), (y2 = if neg then 1 else 0) → q = (if neg then p + 1 else p) → W_X8_add s (nI (tkK (nuTok p e neg (slT T (e - q) q)))) (nI p) (vC (nuTok p e neg (slT T (e - q) q))) Q → P13 y2 := by
    intro y2 neg q hy hq HH
    have hqb : q ≤ p + 1 := by cases neg <;> simp at hq <;> omega
    apply hP13
    intro P27 hP27
    have hq27 : P27 (nI q) := by
      apply hP27
      intro P40 hP40
      have h40 : ∀ y4 : Int32, (y4 = if q < e then 1 else 0) → P40 y4 := by
        intro y4 hy4
        apply hP40
        intro P49 hP49
        have hne : q < e → slT T (e - q) q ≠ [] := by
          intro hh h3
          have := congrArg List.length h3
          rw [slT_len] at this; simp at this; omega
        have hemp : ¬ q < e → slT T (e - q) q = [] := by
          intro hh; rw [show e - q = 0 by omega]; rfl
        have fin : ∀ (x5 : Int32) (v : Int), (x5 = 1 → gU T q e v (dvL 0 (slT T (e - q) q)) 0 e) → (x5 = 0 → q < e → ¬ (slT T (e - q) q).all isDg = true) → (x5 = 0 ∨ x5 = 1)
            → (-1000 ≤ v ∧ v < 2000000000000) → (∀ P112 : Int64 → Prop, (∀ (y8 : Int64), (∀ P142 : Int32 → Prop, (∀ (y9 : Int32), (∀ P155 : Int32 → Prop, (∀ (y10 : Int32), (∀ P167 : Int64 → Prop, (∀ (y11 : Int64), (W_X8_add s y10 (nI p) y11 
          (fun s12 => Q s12)) → P167 y11) → 
         ((y9 = 0 → P167 0)
         ∧ (¬ y9 = 0 → P167 y8))) → P155 y10) → 
        ((y9 = 0 → P155 1)
        ∧ (¬ y9 = 0 → P155 (nI 4)))) → P142 y9) → 
       ((x5 = 0 → P142 0)
       ∧ (¬ x5 = 0 → (((lg_cmp y8 ((-2147483648))) < 0 → P142 0)
        ∧ (¬ (lg_cmp y8 ((-2147483648))) < 0 → ((0 < (lg_cmp y8 ((2147483647))) → P142 0)
         ∧ (¬ 0 < (lg_cmp y8 ((2147483647))) → P142 1))))))) → P112 y8) → 
      ((y2 = 0 → P112 (Int64.ofInt v))
      ∧ (¬ y2 = 0 → P112 (-(Int64.ofInt v))))) := by
          intro x5 v g1 g0 g gb P112 hP112
          have body : ∀ w : Int, w = (if neg then -v else v) → P112 (Int64.ofInt w) := by
            intro w hw
            have hwb : -2000000000000 ≤ w ∧ w ≤ 2000000000000 := by cases neg <;> simp at hw <;> omega
            apply hP112
            intro P142 hP142
            have bad : ¬ nuG neg (slT T (e - q) q) → P142 0 := by
              intro hg
              unfold nuTok at HH; rw [if_neg hg] at HH
              apply hP142
              intro P155 hP155
              refine ⟨fun _ => hP155 _ ?_, fun hh => absurd rfl hh⟩
              intro P167 hP167
              exact ⟨fun _ => hP167 _ HH, fun hh => absurd rfl hh⟩
            have good : nuG neg (slT T (e - q) q) → w = nuV neg (slT T (e - q) q) → P142 1 := by
              intro hg hwv
              unfold nuTok at HH; rw [if_pos hg] at HH
              apply hP142
              intro P155 hP155
              refine ⟨fun hh => absurd hh (by decide), fun _ => hP155 _ ?_⟩
              intro P167 hP167
              refine ⟨fun hh => absurd hh (by decide), fun _ => hP167 _ ?_⟩
              rw [hwv]; exact HH
            have hbad0 : x5 = 0 → ¬ nuG neg (slT T (e - q) q) := by
              intro hx hg
              by_cases hqe : q < e
              · exact g0 hx hqe hg.2.1
              · exact hg.1 (hemp hqe)
            rw [lgc_lt0, lgc_gt0, oJ_toInt (by omega) (by omega), show ((-2147483648 : Int64)).toInt = -2147483648 from rfl, show ((2147483647 : Int64)).toInt = 2147483647 from rfl]
            refine ⟨fun hx => bad (hbad0 hx), fun hx => ?_⟩
            obtain ⟨i1, i2, i3, iv, gv⟩ := g1 (g.resolve_left hx)
            have i2 : (slT T (e - q) q).all isDg = true := i2
            have hv : ¬ nuG neg (slT T (e - q) q) ∨ (w = nuV neg (slT T (e - q) q)) := by
              rcases gv with gv | gv
              · right; unfold nuV; rw [← gv]; exact hw
              · left; intro hg
                have := hg.2.2; unfold nuV at this
                cases neg <;> simp at this <;> omega
            refine ⟨fun hx2 => bad ?_, fun hx2 => ⟨fun hx3 => bad ?_, fun hx3 => ?_⟩⟩
            · rcases hv with hv | hv
              · exact hv
              · intro hg; have := hg.2.2.1; omega
            · rcases hv with hv | hv
              · exact hv
              · intro hg; have := hg.2.2.2; omega
            · rcases hv with hv | hv
              · exfalso
                apply hv
                refine ⟨hne i1, i2, ?_⟩
                unfold nuV
                rcases gv with gv | gv
                · rw [← gv]; cases neg <;> simp at hw ⊢ <;> omega
                · exfalso; cases neg <;> simp at hw <;> omega
              · exact good ⟨hne i1, i2, by omega, by omega⟩ hv
          subst hy
          cases neg
          · exact ⟨fun _ => body v rfl, fun hh => absurd rfl hh⟩
          · refine ⟨fun hh => absurd hh (by decide), fun _ => ?_⟩
            rw [← Int64.ofInt_neg]; exact body _ rfl
        have hL : ∀ (m k : Nat) (x5 : Int32) (v : Int) (V : Nat), e - k = m → q ≤ k → (k ≤ e ∨ k = q) → (x5 = 1 → gU T q e v V m k) → (x5 = 0 → q < e → ¬ (slT T (e - q) q).all isDg = true) → (x5 = 0 ∨ x5 = 1)
            → (-1000 ≤ v ∧ v < 2000000000000) → P49 x5 (Int64.ofInt v) (nI k) := by
          intro m
          induction m with
          | zero =>
            intro k x5 v V hm hk1 hk2 g1 g0 g gb
            apply hP49
            intro P99 hP99
            have hP := hP99 (fin x5 v (fun hx => by obtain ⟨i1, i2, i3, iv, i4⟩ := g1 hx; exact ⟨i1, i2, i3 ▸ rfl, iv, by rw [← i3]; exact i4⟩) g0 g gb)
            rw [nI_leU (by omega) (by omega)]
            exact ⟨fun _ => hP, fun hh => absurd (by omega) hh⟩
          | succ m ih =>
            intro k x5 v V hm hk1 hk2 g1 g0 g gb
            apply hP49
            intro P99 hP99
            rw [nI_leU (by omega) (by omega)]
            refine ⟨fun hh => absurd hh (by omega), fun _ => ⟨fun hx => hP99 (fin x5 v (fun hx1 => by rw [hx] at hx1; exact absurd hx1 (by decide)) g0 g gb), fun hx => ⟨nI_inU (by omega) (by omega), ?_⟩⟩⟩
            obtain ⟨i1, i2, i3, iv, gv⟩ := g1 (g.resolve_left hx)
            have hTk := h.2.2 k
            have hs : slT T (m + 1) k = T k :: slT T m (k + 1) := rfl
            rw [nI_ix (by omega), h.2.1 k (by omega)]
            refine k8_isDigit hTk ⟨nI_inU (by omega) (by omega), ?_⟩
            intro x16 e16 x17 e17
            subst e17; rw [nI_s]
            have hbJ : (bC (T k)).toInt64 = Int64.ofInt (bC (T k)).toInt := by
              rw [← Int64.toInt_inj, Int32.toInt_toInt64, oJ_toInt (by have := i_rng (bC (T k)); omega) (by have := i_rng (bC (T k)); omega)]
            have e3 : Int64.ofInt v * (10 : Int64) + Int64.ofInt (bC (T k)).toInt - 48 = Int64.ofInt (v * 10 + (bC (T k)).toInt - 48) := by
              rw [Int64.ofInt_sub, Int64.ofInt_add, Int64.ofInt_mul]; rfl
            have hbb : -128 ≤ (bC (T k)).toInt ∧ (bC (T k)).toInt < 128 := by rw [bC_toInt hTk]; split <;> omega
            have hvv : 0 ≤ v ∧ v ≤ 1099511627776 := by omega
            rw [hbJ, e3, min40 (by omega) (by omega)] at e16
            subst e16
            cases c : isDg (T k)
            · refine ih (k + 1) _ _ 0 (by omega) (by omega) (by omega) (fun hh => absurd hh (by simp)) (fun _ _ => ?_) (Or.inl (by simp)) (by split <;> omega)
              rw [i2, hs, List.all_cons, c]; simp
            · have c' := c
              unfold isDg at c'; simp at c'
              have hbe : (bC (T k)).toInt = T k := by rw [bC_toInt hTk, if_pos (by omega)]
              refine ih (k + 1) _ _ (10 * V + (T k - 48)) (by omega) (by omega) (by omega) (fun _ => ⟨i1, ?_, ?_, ?_, ?_⟩) (fun hh => absurd hh (by simp)) (Or.inr (by simp)) (by split <;> omega)
              · rw [i2, hs, List.all_cons, c, Bool.true_and]
              · rw [← i3, hs]; rfl
              · split <;> omega
              · rw [hbe]; split <;> omega
        refine hL (e - q) q y4 0 0 rfl (Nat.le_refl _) (Or.inr rfl) ?_ ?_ ?_ (by omega)
        · intro hx; rw [hy4] at hx
          by_cases c : q < e
          · exact ⟨c, rfl, rfl, by omega, Or.inl rfl⟩
          · rw [if_neg c] at hx; exact absurd hx (by decide)
        · intro hx hqe; rw [hy4, if_pos hqe] at hx; exact absurd hx (by decide)
        · rw [hy4]; by_cases c : q < e
          · rw [if_pos c]; exact Or.inr rfl
          · rw [if_neg c]; exact Or.inl rfl
      rw [nI_leU (by omega) (by omega)]
      refine ⟨fun hh => h40 _ ?_, fun hh => h40 _ ?_⟩
      · rw [if_neg (by omega)]
      · rw [if_pos (by omega)]
    subst hy
    cases neg
    · refine ⟨fun _ => ?_, fun hh => absurd rfl hh⟩
      simp at hq; rw [← hq]; exact hq27
    · refine ⟨fun hh => absurd hh (by decide), fun _ => ?_⟩
      simp at hq; rw [nI_s, ← hq]; exact hq27
  refine ⟨fun hh => main 0 false p rfl rfl (H0 hh), fun hh => main 1 true (p + 1) rfl rfl (H1 hh)⟩
theorem k8_addRun {p : Nat} {Q : yS → Prop} (h : txC s T n) (hw : wdC s) (hp : p < n) (h40 : T p ≠ 40) (h41 : T p ≠ 41)
    (H : W_X8_add s (nI (tkK (tokAt T n p))) (nI p) (vC (tokAt T n p)) Q) : W_X8_addRun s 1 8192 (nI p) (nI (runT T (n - p) p)) Q := by
  have hn := h.1
  have hT := h.2.2 p
  have hr := runT_le (T := T) (n - p) p
  unfold W_X8_addRun
  rw [nI_inj (by omega) (by omega), nI_ix (by omega), h.2.1 p hp]
  unfold tokAt at H
  rw [if_neg (by omega), if_neg h40, if_neg h41] at H
  cases hwd : isWd (T p)
  · rw [if_pos hwd] at H
    have e : runT T (n - p) p = p := by rw [show n - p = (n - p - 1) + 1 by omega, runT, if_neg (by simp [hwd])]
    exact ⟨fun hh => absurd e hh, fun _ => H⟩
  · rw [if_neg (by simp [hwd])] at H
    have e : p < runT T (n - p) p := by
      rw [show n - p = (n - p - 1) + 1 by omega, runT, if_pos hwd]
      have := (runT_le (T := T) (n - p - 1) (p + 1)).1; omega
    generalize runT T (n - p) p = e at *
    dsimp only at H
    refine ⟨fun _ => ⟨nI_inU (by omega) (by omega), k8_isLetter hT ⟨fun hh => ?_, fun hh => ?_⟩⟩, fun hh => absurd hh (by omega)⟩
    · rw [if_neg (by simp [if0 hh])] at H
      refine k8_addNumber h e (by omega) (fun h45 => ?_) (fun h45 => ?_)
      · rw [if_pos h45] at H; exact H
      · rw [if_neg h45] at H; exact H
    · rw [if_pos (if1 hh)] at H
      exact k8_addName h hw e (by omega) H
theorem k8_add {k pl : Int32} {v : Int64} {j : Nat} {Q : yS → Prop} (hj : (sI s 92 3) = nI j) (hb : j < 8193)
    (H : Q (wI (wJ (wI (wI s 93 j k) 94 j pl) 95 j v) 92 3 (nI (j + 1)))) : W_X8_add s k pl v Q := by
  unfold W_X8_add
  rw [hj, nI_ix (by omega)]
  refine ⟨nI_inU hb (by omega), ?_⟩
  intro s2 e2
  have c2 : (sI s2 92 3) = nI j := by subst e2; exact hj
  rw [c2, nI_ix (by omega)]
  refine ⟨nI_inU hb (by omega), ?_⟩
  intro s4 e4
  have c4 : (sI s4 92 3) = nI j := by subst e4; exact c2
  rw [c4, nI_ix (by omega)]
  refine ⟨nI_inU hb (by omega), ?_⟩
  intro s6 e6 s7 e7
  have c6 : (sI s6 92 3) = nI j := by subst e6; exact c4
  rw [c6, nI_s] at e7
  subst e7; subst e6; subst e4; subst e2; exact H
/-- where the j-th token's blanks begin, and the j-th token -/
def tkPos (T : Nat → Nat) (n : Nat) : Nat → Nat
  | 0 => 0
  | j + 1 => tkX (tokS T n (tkPos T n j))
def tkJ (T : Nat → Nat) (n j : Nat) : Tok := tokS T n (tkPos T n j)
/-- the klass's first j tokens -/
def tkC (s : yS) (T : Nat → Nat) (n j : Nat) : Prop := (sI s 92 3) = nI j ∧ ∀ i, i < j → (sI s 93) i = nI (tkK (tkJ T n i)) ∧ (sI s 94) i = nI (tkP (tkJ T n i)) ∧ (sJ s 95) i = vC (tkJ T n i)
/-- what read leaves -/
def rdF (s s' : yS) : Prop := (∀ a i, ¬ (a = 92 ∧ i = 3) → a ≠ 93 → a ≠ 94 → sI s' a i = sI s a i) ∧ (∀ a i, a ≠ 95 → sJ s' a i = sJ s a i) ∧ ∀ a i, sR s' a i = sR s a i
theorem tkC_add {j : Nat} {t : Tok} (h : tkC s T n j) (ht : tkJ T n j = t) (hj : j < 8193) {pl : Int32} (hp : pl = nI (tkP t)) :
    tkC (wI (wJ (wI (wI s 93 j (nI (tkK t))) 94 j pl) 95 j (vC t)) 92 3 (nI (j + 1))) T n (j + 1) := by
  refine ⟨rfl, fun i hi => ?_⟩
  simp only [sI_w, sJ_w, sI_wJ, sJ_wI]
  by_cases c : i = j
  · subst c; subst ht; subst hp; simp
  · have := h.2 i (by omega)
    simp [c, this]
theorem rdF_add {s0 : yS} {j : Nat} {k pl c : Int32} {v : Int64} (h : rdF s0 s) : rdF s0 (wI (wJ (wI (wI s 93 j k) 94 j pl) 95 j v) 92 3 c) := by
  refine ⟨fun a i h1 h2 h3 => ?_, fun a i h1 => ?_, fun a i => h.2.2 a i⟩
  · rw [sI_w, if_neg h1, sI_wJ, sI_w, if_neg (by omega), sI_w, if_neg (by omega)]; exact h.1 a i h1 h2 h3
  · rw [sJ_wI, sJ_w, if_neg (by omega)]; exact h.2.1 a i h1
theorem rdF_txC {s0 : yS} (h : rdF s0 s) (k : txC s0 T n) : txC s T n := ⟨k.1, fun i hi => by rw [h.1 _ _ (by omega) (by omega) (by omega)]; exact k.2.1 i hi, k.2.2⟩
theorem rdF_wdC {s0 : yS} (h : rdF s0 s) (k : wdC s0) : wdC s := fun w hw => by rw [h.2.1 _ _ (by omega)]; exact k w hw
def rdI (s0 : yS) (T : Nat → Nat) (n : Nat) (p : Nat) (s : yS) : Prop := ∃ j, j ≤ p ∧ tkC s T n j ∧ (∀ i, i < j → 2 ≤ tkK (tkJ T n i)) ∧ tkJ T n j = tokS T n p ∧ rdF s0 s
theorem tokAt_X {p : Nat} (hp : p < n) (h40 : T p ≠ 40) (h41 : T p ≠ 41) (hk : 2 ≤ tkK (tokAt T n p)) : tkX (tokAt T n p) = runT T (n - p) p := by
  unfold tokAt at hk ⊢
  rw [if_neg (by omega), if_neg h40, if_neg h41] at hk ⊢
  by_cases c : isWd (T p) = false
  · rw [if_pos c] at hk; simp [tkK] at hk
  · rw [if_neg c]
    dsimp only
    have hnu : ∀ neg l, tkX (nuTok p (runT T (n - p) p) neg l) = runT T (n - p) p := by
      intro neg l; unfold nuTok; split <;> rfl
    split
    · unfold nmTok; split
      · split <;> rfl
      · rfl
    · split
      · exact hnu _ _
      · exact hnu _ _
theorem k8_read {Q : yS → Prop} (h : txC s T n) (hw : wdC s)
    (H : ∀ s' j, rdF s s' → tkC s' T n (j + 1) → (∀ i, i < j → 2 ≤ tkK (tkJ T n i)) → tkK (tkJ T n j) ≤ 1 → j ≤ n → Q s') : W_X8_read s 1 8192 (nI n) Q := by
  have hn := h.1
  unfold W_X8_read
  intro s1 e1 P10 hP10
  suffices hL : ∀ (m p : Nat) (s3 : yS), n - p ≤ m → p ≤ n → rdI s T n p s3 → P10 (nI p) s3 by
    refine hL n 0 s1 (by omega) (by omega) ⟨0, by omega, ⟨?_, fun i hi => by omega⟩, fun i hi => by omega, rfl, ?_⟩
    · subst e1; rfl
    · subst e1; refine ⟨fun a i h1 h2 h3 => ?_, fun a i h1 => rfl, fun a i => rfl⟩
      rw [sI_w, if_neg h1]
  intro m
  induction m with
  | zero =>
    intro p s3 hm hp hI
    have ep : p = n := by omega
    subst ep
    apply hP10
    refine ⟨fun _ => ?_, fun hh => absurd (by rw [nI_leU (by omega) (by omega)]; omega) hh⟩
    obtain ⟨j, hj1, hj2, hj3, hj4, hj5⟩ := hI
    refine k8_add hj2.1 (by omega) ?_
    have ht : tkJ T p j = (0, p, 0, [], p) := by
      rw [hj4]; unfold tokS; rw [Nat.sub_self]; unfold skipT tokAt; rw [if_pos (by omega)]
    refine H _ j (rdF_add hj5) ?_ hj3 (by rw [ht]; simp [tkK]) hj1
    exact tkC_add hj2 ht (by omega) rfl
  | succ m ih =>
    intro p s3 hm hp hI
    by_cases hpn : p = n
    · exact ih p s3 (by omega) hp hI
    obtain ⟨j, hj1, hj2, hj3, hj4, hj5⟩ := hI
    have tx := rdF_txC hj5 h
    have hT := h.2.2 p
    apply hP10
    rw [nI_leU (by omega) (by omega)]
    refine ⟨fun hh => absurd hh (by omega), fun _ => ⟨nI_inU (by omega) (by omega), ?_⟩⟩
    intro x6 e6 x7 e7
    rw [nI_ix (by omega), tx.2.1 p (by omega)] at e6
    subst e6; subst e7
    rw [nI_s]
    intro P109 hP109
    have step : ∀ (e : Nat) (s9 : yS), p < e → e ≤ n → rdI s T n e s9 → P109 (nI e) s9 := by
      intro e s9 he1 he2 hI
      apply hP109
      intro x10 e10
      have : x10 = nI e := by
        subst e10
        by_cases c : nI (p + 1) < nI e
        · rw [if_pos c]
        · rw [if_neg c]; rw [nI_ltU (by omega) (by omega)] at c; congr 1; omega
      subst this
      exact ih e s9 (by omega) he2 hI
    have hskip : ¬ T p = 32 → ¬ T p = 10 → tkJ T n j = tokAt T n p := by
      intro h32 h10
      rw [hj4]; unfold tokS
      rw [show n - p = (n - p - 1) + 1 by omega, skipT, if_neg]
      unfold isBl; simp [h32, h10]
    have hblank : isBl (T p) = true → P109 (nI (p + 1)) s3 := by
      intro hb
      refine step (p + 1) s3 (by omega) (by omega) ⟨j, by omega, hj2, hj3, ?_, hj5⟩
      rw [hj4]; unfold tokS
      rw [show n - p = (n - (p + 1)) + 1 by omega, skipT, if_pos hb]
    have hpar : ∀ k : Nat, 2 ≤ k → tkJ T n j = (k, p, 0, [], p + 1) → W_X8_add s3 (nI k) (nI p) 0 (fun s14 => P109 (nI (p + 1)) s14) := by
      intro k hk ht
      refine k8_add hj2.1 (by omega) ?_
      refine step (p + 1) _ (by omega) (by omega) ⟨j + 1, by omega, ?_, ?_, ?_, rdF_add hj5⟩
      · have hv : (0 : Int64) = vC (k, p, 0, [], p + 1) := by
          unfold vC tkV tkN; dsimp only; split <;> rfl
        rw [hv]
        exact tkC_add hj2 ht (by omega) rfl
      · intro i hi
        by_cases c : i = j
        · subst c; rw [ht]; exact hk
        · exact hj3 i (by omega)
      · show tokS T n (tkX (tkJ T n j)) = _
        rw [ht]; rfl
    rw [bC_eq hT (by omega), bC_eq hT (by omega), bC_eq hT (by omega), bC_eq hT (by omega)]
    refine ⟨fun h40 => ⟨fun h41 => ⟨fun h32 => hblank (by unfold isBl; simp [h32]), fun h32 => ⟨fun h10 => hblank (by unfold isBl; simp [h10]), fun h10 => ?_⟩⟩, fun h41 => hpar 3 (by omega) ?_⟩, fun h40 => hpar 2 (by omega) ?_⟩
    · have hr := runT_le (T := T) (n - p) p
      refine k8_runEnd tx hp ?_
      refine k8_addRun tx (rdF_wdC hj5 hw) (by omega) h40 h41 ?_
      have ht := hskip h32 h10
      have hc := tok_cases T n p hp
      dsimp only at hc
      refine k8_add hj2.1 (by omega) ?_
      have hC := tkC_add (pl := nI p) hj2 ht (by omega) (by rw [hc.2.1])
      have hF := rdF_add (j := j) (k := nI (tkK (tokAt T n p))) (pl := nI p) (c := nI (j + 1)) (v := vC (tokAt T n p)) hj5
      generalize wI (wJ (wI (wI s3 93 j (nI (tkK (tokAt T n p)))) 94 j (nI p)) 95 j (vC (tokAt T n p))) 92 3 (nI (j + 1)) = s12 at hC hF
      rw [hC.1, nI_1U, nI_sub (by omega), Nat.add_sub_cancel, nI_ix (by omega), (hC.2 j (by omega)).1, ht]
      refine ⟨nI_inU (by omega) (by omega), ?_⟩
      rw [nI_inj (by omega) (by omega)]
      refine ⟨fun hk => ?_, fun hk => H s12 j hF hC hj3 (by rw [ht]; omega) (by omega)⟩
      have hk2 : 2 ≤ tkK (tokAt T n p) := by
        by_cases c : tkK (tokAt T n p) = 0
        · have := hc.2.2.2.2.2.2.2.2.2 c; omega
        · omega
      have hX : tkX (tokAt T n p) = runT T (n - p) p := tokAt_X (by omega) h40 h41 hk2
      refine step _ s12 (by have := hc.2.2.2.1 hk2; omega) (by omega) ⟨j + 1, by have := hc.2.2.2.1 hk2; omega, hC, ?_, ?_, hF⟩
      · intro i hi
        by_cases c : i = j
        · subst c; rw [ht]; exact hk2
        · exact hj3 i (by omega)
      · show tokS T n (tkX (tkJ T n j)) = _
        rw [ht, hX]
    · rw [hskip (by omega) (by omega)]; unfold tokAt; rw [if_neg (by omega), if_neg h40, if_pos h41]
    · rw [hskip (by omega) (by omega)]; unfold tokAt; rw [if_neg (by omega), if_pos h40]
end

theorem dvL_mono : ∀ (l : List Nat) (v : Nat), v ≤ dvL v l
  | [], v => Nat.le_refl _
  | b :: r, v => Nat.le_trans (by omega) (dvL_mono r (10 * v + (b - 48)))
/-- what a number makes of the reference's state -/
def nuP (s0 s : yS) (p : Nat) (neg : Bool) (l : List Nat) : Prop :=
  nxF s0 s ∧ (sI s 139 10) = (sI s0 139 10) ∧ (sI s 139 12) = (sI s0 139 12) ∧ (sI s 139 11) = nI 3
  ∧ wrM s0 s (¬ nuG neg l) 1 (nI p) ∧ (nuG neg l → (sJ s 139 14) = Int64.ofInt (nuV neg l))
theorem k_takeNumber {s : yS} {T : Nat → Nat} {n p e : Nat} {Q : yS → Prop} (h : txM s T n) (hp : (sI s 139 10) = nI p) (h1 : p < e) (h2 : e ≤ n)
    (H1 : T p = 45 → ∀ s', nuP s s' p true (slT T (e - (p + 1)) (p + 1)) → Q s') (H0 : T p ≠ 45 → ∀ s', nuP s s' p false (slT T (e - p) p) → Q s') : W_X12_takeNumber s (nI e) Q := by
  have hn := h.1
  unfold W_X12_takeNumber
  intro s1 e1
  have F1 : nxF s s1 := by subst e1; exact nxF.rfl'.wI (by omega)
  have a1 : (sI s1 139 10) = nI p := by subst e1; exact hp
  have b1 : (sI s1 139 15) = (sI s 139 15) ∧ (sI s1 139 16) = (sI s 139 16) := by subst e1; exact ⟨rfl, rfl⟩
  have t1 : (sI s1 139 11) = nI 3 := by subst e1; rfl
  have tp1 : (sI s1 139 12) = (sI s 139 12) := by subst e1; rfl
  have tx1 := F1.txM h
  rw [a1]
  refine ⟨nI_inU (by omega) (by omega), ?_⟩
  intro P24 hP24
  rw [nI_ix (by omega), tx1.2.2.1 p (by omega), nI_inj (by have := h.2.2.2 p; omega) (by omega)]
  -- the digits, from q on
  have main : ∀ (y3 : Int32) (neg : Bool) (q : Nat), (y3 = if neg then 1 else 0) → q = (if neg then p + 1 else p) → (∀ s', nuP s s' p neg (slT T (e - q) q) → Q s') → P24 y3 := by
    intro y3 neg q hy hq HH
    apply hP24
    intro P44 hP44
    have hl : ∀ y4 : Int32, (y4 = if q < e then 1 else 0) → P44 y4 := by
      intro y4 hy4
      apply hP44
      intro P65 hP65
      have hm5 : ∀ y5 : Int32, y5 = nI q → P65 y5 := by
        intro y5 hy5
        subst hy5
        apply hP65
        intro P67 hP67
        -- behind the loop
        have fin : ∀ (x6 : Int32) (v : Int) (V : Nat), (x6 = 1 → q < e ∧ (slT T (e - q) q).all isDg = true ∧ V = dvL 0 (slT T (e - q) q)) → (x6 = 0 → q < e → ¬ (slT T (e - q) q).all isDg = true) → (x6 = 0 ∨ x6 = 1)
            → (x6 = 1 → v = V ∨ (100000000000 ≤ v ∧ 100000000000 ≤ V)) → (-1000 ≤ v ∧ v < 2000000000000) →
            ∀ P142 : Int64 → Prop, (∀ (y9 : Int64), (∀ s10 : yS, s10 = wJ s1 139 14 y9 → 
              ∀ P176 : Int32 → Prop, (∀ (y11 : Int32), (((¬ y11 = 0 → Q s10)
               ∧ (y11 = 0 → W_X12_wrong s10 1 (sI s10 139 10) 
                (fun s12 => Q s12)))) → P176 y11) → 
              ((x6 = 0 → P176 0)
              ∧ (¬ x6 = 0 → (((lg_cmp (sJ s10 139 14) ((-2147483648))) < 0 → P176 0)
               ∧ (¬ (lg_cmp (sJ s10 139 14) ((-2147483648))) < 0 → ((0 < (lg_cmp (sJ s10 139 14) ((2147483647))) → P176 0)
                ∧ (¬ 0 < (lg_cmp (sJ s10 139 14) ((2147483647))) → P176 1))))))) → P142 y9) → 
             ((y3 = 0 → P142 (Int64.ofInt v))
             ∧ (¬ y3 = 0 → P142 (-(Int64.ofInt v)))) := by
          intro x6 v V g1 g0 g gv0 gb P142 hP142
          have body : ∀ w : Int, w = (if neg then -v else v) → P142 (Int64.ofInt w) := by
            intro w hw
            apply hP142
            intro s10 e10 P176 hP176
            have F10 : nxF s s10 := by subst e10; exact F1.wJ (by omega)
            have a10 : (sI s10 139 10) = nI p := by subst e10; exact a1
            have b10 : (sI s10 139 15) = (sI s 139 15) ∧ (sI s10 139 16) = (sI s 139 16) := by subst e10; exact b1
            have t10 : (sI s10 139 11) = nI 3 := by subst e10; exact t1
            have tp10 : (sI s10 139 12) = (sI s 139 12) := by subst e10; exact tp1
            have n10 : (sJ s10 139 14) = Int64.ofInt w := by subst e10; rw [sJ_w, if_pos ⟨rfl, rfl⟩]
            have hwb : -2000000000000 ≤ w ∧ w ≤ 2000000000000 := by
              cases neg <;> simp at hw <;> omega
            have bad : ¬ nuG neg (slT T (e - q) q) → P176 0 := by
              intro hg
              apply hP176
              refine ⟨fun hh => absurd rfl hh, fun _ => ?_⟩
              rw [a10]
              refine k_wrongM b10 F10 (fun s' F' hi hj hw => HH s' ⟨F', ?_, ?_, ?_, ?_, fun hh => absurd hh hg⟩)
              · rw [hi _ (by omega) (by omega), a10, hp]
              · rw [hi _ (by omega) (by omega), tp10]
              · rw [hi _ (by omega) (by omega), t10]
              · exact ⟨fun hh => hw.1 ⟨trivial, hh.2⟩, fun hh => hw.2 (fun h3 => hh ⟨hg, h3.2⟩)⟩
            have good : nuG neg (slT T (e - q) q) → w = nuV neg (slT T (e - q) q) → P176 1 := by
              intro hg hwv
              apply hP176
              refine ⟨fun _ => HH s10 ⟨F10, a10.trans hp.symm, tp10, t10, ⟨fun hh => absurd hg hh.1, fun _ => b10⟩, fun _ => by rw [n10, hwv]⟩, fun hh => absurd hh (by decide)⟩
            have hne : q < e → slT T (e - q) q ≠ [] := by
              intro hh h3
              have := congrArg List.length h3
              rw [slT_len] at this; simp at this; omega
            have hemp : ¬ q < e → slT T (e - q) q = [] := by
              intro hh; rw [show e - q = 0 by omega]; rfl
            have hbad0 : x6 = 0 → ¬ nuG neg (slT T (e - q) q) := by
              intro hx hg
              by_cases hqe : q < e
              · exact g0 hx hqe hg.2.1
              · exact hg.1 (hemp hqe)
            rw [n10, lgc_lt0, lgc_gt0, oJ_toInt (by omega) (by omega), show ((-2147483648 : Int64)).toInt = -2147483648 from rfl, show ((2147483647 : Int64)).toInt = 2147483647 from rfl]
            refine ⟨fun hx => bad (hbad0 hx), fun hx => ?_⟩
            obtain ⟨i1, i2, i3⟩ := g1 (g.resolve_left hx)
            have gv := gv0 (g.resolve_left hx)
            have hv : ¬ nuG neg (slT T (e - q) q) ∨ (w = nuV neg (slT T (e - q) q)) := by
              rcases gv with gv | gv
              · right; unfold nuV; rw [← i3, ← gv]; exact hw
              · left; intro hg
                have := hg.2.2; unfold nuV at this; rw [← i3] at this
                cases neg <;> simp at this <;> omega
            refine ⟨fun hx2 => bad ?_, fun hx2 => ⟨fun hx3 => bad ?_, fun hx3 => ?_⟩⟩
            · rcases hv with hv | hv
              · exact hv
              · intro hg; have := hg.2.2.1; omega
            · rcases hv with hv | hv
              · exact hv
              · intro hg; have := hg.2.2.2; omega
            · rcases hv with hv | hv
              · exfalso
                apply hv
                refine ⟨hne i1, i2, ?_⟩
                unfold nuV; rw [← i3]
                rcases gv with gv | gv
                · rw [← gv]; cases neg <;> simp at hw ⊢ <;> omega
                · exfalso; cases neg <;> simp at hw <;> omega
              · exact good ⟨hne i1, i2, by omega, by omega⟩ hv
          subst hy
          cases neg
          · exact ⟨fun _ => body v rfl, fun hh => absurd rfl hh⟩
          · refine ⟨fun hh => absurd hh (by decide), fun _ => ?_⟩
            rw [← Int64.ofInt_neg]; exact body _ rfl
        -- the loop
        have hL : ∀ (m k : Nat) (x6 : Int32) (v : Int) (V : Nat), e - k = m → q ≤ k → (k ≤ e ∨ k = q) → (x6 = 1 → q < e ∧ (slT T (e - q) q).all isDg = (slT T m k).all isDg ∧ dvL V (slT T m k) = dvL 0 (slT T (e - q) q)) → (x6 = 0 → q < e → ¬ (slT T (e - q) q).all isDg = true) → (x6 = 0 ∨ x6 = 1)
            → (x6 = 1 → v = V ∨ (100000000000 ≤ v ∧ 100000000000 ≤ V)) → (-1000 ≤ v ∧ v < 2000000000000) → P67 x6 (Int64.ofInt v) (nI k) := by
          have hqb : q ≤ p + 1 := by cases neg <;> simp at hq <;> omega
          intro m
          induction m with
          | zero =>
            intro k x6 v V hm hk1 hk2 g1 g0 g gv gb
            apply hP67
            intro P129 hP129
            have hP := hP129 (fin x6 v V (fun hx => by obtain ⟨i1, i2, i3⟩ := g1 hx; exact ⟨i1, i2, i3⟩) g0 g gv gb)
            rw [nI_leU (by omega) (by omega)]
            exact ⟨fun _ => hP, fun hh => absurd (by omega) hh⟩
          | succ m ih =>
            intro k x6 v V hm hk1 hk2 g1 g0 g gv gb
            apply hP67
            intro P129 hP129
            rw [nI_leU (by omega) (by omega)]
            refine ⟨fun hh => absurd hh (by omega), fun _ => ⟨fun hx => hP129 (fin x6 v V (fun hx1 => by rw [hx] at hx1; exact absurd hx1 (by decide)) g0 g gv gb), fun hx => ⟨nI_inU (by omega) (by omega), ?_⟩⟩⟩
            obtain ⟨i1, i2, i3⟩ := g1 (g.resolve_left hx)
            have hTk := h.2.2.2 k
            rw [nI_ix (by omega), tx1.2.2.1 k (by omega)]
            refine k_isDigit hTk ?_
            intro P121 hP121
            have hs : slT T (m + 1) k = T k :: slT T m (k + 1) := rfl
            have gv' := gv (g.resolve_left hx)
            have next : ∀ (v' : Int), (isDg (T k) = true → (v' = (10 * V + (T k - 48) : Nat) ∨ (100000000000 ≤ v' ∧ 100000000000 ≤ 10 * V + (T k - 48)))) → (-1000 ≤ v' ∧ v' < 2000000000000) → P121 (Int64.ofInt v') := by
              intro v' hv' hb'
              apply hP121
              intro x16 e16
              subst e16; rw [nI_s]
              by_cases c : isDg (T k) = true
              · rw [if_pos c]
                refine ih (k + 1) 1 v' (10 * V + (T k - 48)) (by omega) (by omega) (by omega) (fun _ => ⟨i1, ?_, ?_⟩) (fun hh => absurd hh (by decide)) (Or.inr rfl) (fun _ => hv' c) hb'
                · rw [i2, hs, List.all_cons, c, Bool.true_and]
                · rw [← i3, hs]; rfl
              · rw [if_neg c]
                have c0 : isDg (T k) = false := Bool.eq_false_iff.mpr c
                refine ih (k + 1) 0 v' 0 (by omega) (by omega) (by omega) (fun hh => absurd hh (by decide)) (fun _ _ => ?_) (Or.inl rfl) (fun hh => absurd hh (by decide)) hb'
                rw [i2, hs, List.all_cons, c0]; simp
            rw [lgc_ge0, oJ_toInt (by omega) (by omega), show ((100000000000 : Int64)).toInt = 100000000000 from rfl]
            have hv0 : 0 ≤ v := by omega
            refine ⟨fun hh => next v (fun c => ?_) gb, fun hh => ⟨nI_inU (by omega) (by omega), ?_⟩⟩
            · right; unfold isDg at c; simp at c; omega
            · have := next (10 * v + (T k : Int) - 48) (fun c => ?_) (by omega)
              · rw [oJ_nI (by omega)]
                have e3 : (10 : Int64) * Int64.ofInt v + Int64.ofInt (T k : Int) - 48 = Int64.ofInt (10 * v + (T k : Int) - 48) := by
                  rw [Int64.ofInt_sub, Int64.ofInt_add, Int64.ofInt_mul]; rfl
                rw [e3]; exact this
              · unfold isDg at c; simp at c; omega
        refine hL (e - q) q y4 0 0 rfl (Nat.le_refl _) (Or.inr rfl) ?_ ?_ ?_ (fun _ => Or.inl rfl) (by omega)
        · intro hx; rw [hy4] at hx
          by_cases c : q < e
          · exact ⟨c, rfl, rfl⟩
          · rw [if_neg c] at hx; exact absurd hx (by decide)
        · intro hx hqe; rw [hy4, if_pos hqe] at hx; exact absurd hx (by decide)
        · rw [hy4]; by_cases c : q < e
          · rw [if_pos c]; exact Or.inr rfl
          · rw [if_neg c]; exact Or.inl rfl
      subst hy
      cases neg
      · refine ⟨fun _ => hm5 _ ?_, fun hh => absurd rfl hh⟩
        simp at hq; rw [hq]
      · refine ⟨fun hh => absurd hh (by decide), fun _ => hm5 _ ?_⟩
        simp at hq; rw [hq, nI_s]
    subst hy
    cases neg
    · refine ⟨fun _ => hl 1 ?_, fun hh => absurd rfl hh⟩
      simp at hq; rw [if_pos (by omega)]
    · refine ⟨fun hh => absurd hh (by decide), fun _ => ?_⟩
      simp at hq
      rw [nI_s, nI_leU (by omega) (by omega)]
      refine ⟨fun hh => hl _ ?_, fun hh => hl _ ?_⟩
      · rw [if_neg (by omega)]
      · rw [if_pos (by omega)]
  refine ⟨fun hh => main 0 false p rfl rfl (H0 hh), fun hh => main 1 true (p + 1) rfl rfl (H1 hh)⟩

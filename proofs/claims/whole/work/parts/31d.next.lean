/-- what a token makes of the reference's state -/
def tkM (s0 s : yS) (t : Tok) : Prop :=
  nxF s0 s ∧ (sI s 139 10) = nI (tkX t) ∧ (sI s 139 12) = nI (tkP t) ∧ wrM s0 s (tkK t = 1) 1 (nI (tkP t))
  ∧ (tkK t = 0 → (sI s 139 11) = nI 4) ∧ (tkK t = 2 → (sI s 139 11) = nI 0) ∧ (tkK t = 3 → (sI s 139 11) = nI 1)
  ∧ (tkK t = 4 → (sI s 139 11) = nI 3 ∧ (sJ s 139 14) = Int64.ofInt (tkV t)) ∧ (tkK t = 5 ∨ tkK t = 6 → (sI s 139 11) = nI 2 ∧ (sJ s 139 13) = Int64.ofInt (c27 0 (tkN t)))
theorem k_next {s : yS} {T : Nat → Nat} {n p : Nat} {Q : yS → Prop} (h : txM s T n) (hp : (sI s 139 10) = nI p) (hpn : p ≤ n)
    (H : ∀ s', tkM s s' (tokS T n p) → Q s') : W_X12_next s Q := by
  have hn := h.1
  unfold W_X12_next
  intro P0 hP0
  suffices hL : ∀ (m p : Nat) (s1 : yS), n - p = m → p ≤ n → nxF s s1 → (sI s1 139 15) = (sI s 139 15) ∧ (sI s1 139 16) = (sI s 139 16) → (sI s1 139 10) = nI p → (∀ s', tkM s s' (tokAt T n (skipT T m p)) → Q s') → P0 s1 from
    hL (n - p) p s rfl hpn nxF.rfl' ⟨rfl, rfl⟩ hp H
  clear H hp hpn p
  intro m
  induction m with
  | zero =>
    intro p s1 hm hpn F1 b1 a1 H
    have ep : p = n := by omega
    apply hP0
    have tx1 := F1.txM h
    rw [a1]
    refine k_letterAt tx1 (by omega) ?_
    rw [if_neg (by omega)]
    intro P26 hP26
    refine ⟨fun hh => absurd hh (by decide), fun _ => k_letterAt tx1 (by omega) ?_⟩
    rw [if_neg (by omega)]
    refine ⟨fun _ => ?_, fun hh => absurd hh (by decide)⟩
    intro s5 e5
    have a5 : (sI s5 139 10) = nI p := by subst e5; exact a1
    have n5 : (sI s5 139 9) = nI n := by subst e5; exact tx1.2.1
    rw [a5, n5, nI_ltU (by omega) (by omega)]
    refine ⟨fun hh => absurd hh (by omega), fun _ => ?_⟩
    intro s23 e23
    have et : tokAt T n (skipT T 0 p) = (0, n, 0, [], n) := by unfold skipT tokAt; rw [if_pos (by omega)]
    rw [et] at H
    refine H s23 ⟨?_, ?_, ?_, ⟨fun hh => by simp [tkK] at hh, fun _ => ?_⟩, fun _ => ?_, fun hh => by simp [tkK] at hh, fun hh => by simp [tkK] at hh, fun hh => by simp [tkK] at hh, fun hh => by simp [tkK] at hh⟩
    · subst e23; subst e5; exact (F1.wI (by omega)).wI (by omega)
    · subst e23; subst e5; rw [← ep]; exact a1
    · subst e23; subst e5; rw [← ep]; rfl
    · subst e23; subst e5; exact b1
    · subst e23; rfl
  | succ m ih =>
    intro p s1 hm hpn F1 b1 a1 H
    apply hP0
    have tx1 := F1.txM h
    have hTp := h.2.2.2 p
    rw [a1]
    refine k_letterAt tx1 (by omega) ?_
    rw [if_pos (by omega)]
    intro P26 hP26
    have blank : isBl (T p) = true → P26 := by
      intro hb
      apply hP26
      intro s3 e3
      refine ih (p + 1) s3 (by omega) (by omega) ?_ ?_ ?_ ?_
      · subst e3; exact F1.wI (by omega)
      · subst e3; exact b1
      · subst e3; rw [sI_w, if_pos ⟨rfl, rfl⟩, nI_s]
      · have e4 : skipT T (m + 1) p = skipT T m (p + 1) := by rw [skipT, if_pos hb]
        rw [e4] at H; exact H
    rw [nI_inj (by omega) (by omega)]
    refine ⟨fun hh => blank (by unfold isBl; simp [hh]), fun hn32 => k_letterAt tx1 (by omega) ?_⟩
    rw [if_pos (by omega), nI_inj (by omega) (by omega)]
    refine ⟨fun hn10 => ?_, fun hh => blank (by unfold isBl; simp [hh])⟩
    have eskip : skipT T (m + 1) p = p := by rw [skipT, if_neg]; unfold isBl; simp [hn32, hn10]
    rw [eskip] at H
    clear ih blank
    intro s5 e5
    have a5 : (sI s5 139 10) = nI p := by subst e5; exact a1
    have F5 : nxF s s5 := by subst e5; exact F1.wI (by omega)
    have b5 : (sI s5 139 15) = (sI s 139 15) ∧ (sI s5 139 16) = (sI s 139 16) := by subst e5; exact b1
    have tp5 : (sI s5 139 12) = nI p := by subst e5; rfl
    have tx5 := F5.txM h
    rw [a5, tx5.2.1, nI_ltU (by omega) (by omega)]
    refine ⟨fun _ => ⟨nI_inU (by omega) (by omega), ?_⟩, fun hh => absurd (by omega) hh⟩
    intro x7 e7
    rw [nI_ix (by omega), tx5.2.2.1 p (by omega)] at e7
    subst e7
    intro P86 hP86
    rw [nI_inj (by omega) (by omega), nI_inj (by omega) (by omega)]
    have paren : T p = 40 ∨ T p = 41 → P86 := by
      intro hh
      apply hP86
      intro s8 e8 s9 e9
      have et : tokAt T n p = (if T p = 40 then 2 else 3, p, 0, [], p + 1) := by
        unfold tokAt; rw [if_neg (by omega)]
        rcases hh with hh | hh <;> simp [hh]
      rw [et] at H
      refine H s9 ⟨?_, ?_, ?_, ⟨fun hh2 => absurd hh2.1 ?_, fun _ => ?_⟩, fun hh2 => absurd hh2 ?_, fun hh2 => ?_, fun hh2 => ?_, fun hh2 => absurd hh2 ?_, fun hh2 => absurd hh2 ?_⟩
      · subst e9; subst e8; exact (F5.wI (by omega)).wI (by omega)
      · subst e9; subst e8; rw [sI_w, if_pos ⟨rfl, rfl⟩, sI_w, if_neg (by omega), a5, nI_s]; rfl
      · subst e9; subst e8; exact tp5
      · unfold tkK; dsimp only; split <;> omega
      · subst e9; subst e8; exact b5
      · unfold tkK; dsimp only; split <;> omega
      · unfold tkK at hh2; dsimp only at hh2; split at hh2
        · rename_i h40; subst e9; subst e8; rw [sI_w, if_neg (by omega), sI_w, if_pos ⟨rfl, rfl⟩, h40]; rfl
        · omega
      · unfold tkK at hh2; dsimp only at hh2; split at hh2
        · omega
        · rename_i h40; subst e9; subst e8; rw [sI_w, if_neg (by omega), sI_w, if_pos ⟨rfl, rfl⟩, hh.resolve_left h40]; rfl
      · unfold tkK; dsimp only; split <;> omega
      · unfold tkK; dsimp only; split <;> omega
    refine ⟨fun hh => paren (Or.inl hh), fun h40 => ⟨fun h41 => ?_, fun hh => paren (Or.inr hh)⟩⟩
    clear paren hP86
    refine k_isOfWord hTp ⟨fun hw => ?_, fun hw => ?_⟩
    · -- a run
      have hwd : isWd (T p) = true := by
        by_cases c : isWd (T p) = true
        · exact c
        · rw [if_neg c] at hw; exact absurd rfl hw
      have hrp : p < runT T (n - p) p := by
        rw [show n - p = (n - p - 1) + 1 by omega, runT, if_pos hwd]
        have := (runT_le (T := T) (n - p - 1) (p + 1)).1; omega
      have hrn : runT T (n - p) p ≤ n := by have := (runT_le (T := T) (n - p) p).2; omega
      have et : tokAt T n p = (let e := runT T (n - p) p
          if isSm (T p) then nmTok p e (slT T (e - p) p)
          else if T p = 45 then nuTok p e true (slT T (e - (p + 1)) (p + 1))
          else nuTok p e false (slT T (e - p) p)) := by
        unfold tokAt; rw [if_neg (by omega), if_neg h40, if_neg h41, if_neg (by simp [hwd])]
      rw [et] at H
      generalize hre : runT T (n - p) p = e at H hrp hrn
      dsimp only at H
      intro P132 hP132 x20 e20
      subst e20
      have hE : W_X12_isSmall s5 (nI (T p)) (fun r14 => ((r14 = 0 → W_X12_takeNumber s5 (nI e) (fun s15 => ∀ s16 : yS, s16 = wI s15 139 10 (nI e) → Q s16))
          ∧ (¬ r14 = 0 → W_X12_takeName s5 (nI e) (fun s17 => ∀ s18 : yS, s18 = wI s17 139 10 (nI e) → Q s18)))) := by
        refine k_isSmall hTp ⟨fun hh => ?_, fun hh => ?_⟩
        · have c : ¬ isSm (T p) = true := by intro c; rw [if_pos c] at hh; exact absurd hh (by decide)
          rw [if_neg c] at H
          have fin : ∀ (neg : Bool) (l : List Nat), (∀ s', tkM s s' (nuTok p e neg l) → Q s') → ∀ s', nuP s5 s' p neg l → ∀ s16 : yS, s16 = wI s' 139 10 (nI e) → Q s16 := by
            intro neg l HH s' hs s16 e16
            obtain ⟨q1, q2, q3, q4, q5, q6⟩ := hs
            apply HH
            have F' := F5.trans q1
            have w' : wrM s s16 (¬ nuG neg l) 1 (nI p) := by
              subst e16
              exact ⟨fun hh => q5.1 ⟨hh.1, by rw [b5.1]; exact hh.2⟩, fun hh => ⟨(q5.2 (fun h3 => hh ⟨h3.1, by rw [← b5.1]; exact h3.2⟩)).1.trans b5.1, (q5.2 (fun h3 => hh ⟨h3.1, by rw [← b5.1]; exact h3.2⟩)).2.trans b5.2⟩⟩
            have f16 : nxF s s16 := by subst e16; exact F'.wI (by omega)
            have a16 : (sI s16 139 10) = nI e := by subst e16; rfl
            have t16 : (sI s16 139 11) = nI 3 := by subst e16; exact q4
            have p16 : (sI s16 139 12) = nI p := by subst e16; exact q3.trans tp5
            have n16 : nuG neg l → (sJ s16 139 14) = Int64.ofInt (nuV neg l) := by subst e16; exact q6
            by_cases g : nuG neg l
            · have et : nuTok p e neg l = (4, p, nuV neg l, [], e) := by unfold nuTok; rw [if_pos g]
              rw [et]
              exact ⟨f16, a16, p16, ⟨fun hh => by simp [tkK] at hh, fun _ => w'.2 (fun hh => hh.1 g)⟩, fun hh => by simp [tkK] at hh, fun hh => by simp [tkK] at hh, fun hh => by simp [tkK] at hh, fun _ => ⟨t16, n16 g⟩, fun hh => by simp [tkK] at hh⟩
            · have et : nuTok p e neg l = (1, p, 0, [], e) := by unfold nuTok; rw [if_neg g]
              rw [et]
              exact ⟨f16, a16, p16, ⟨fun hh => w'.1 ⟨g, hh.2⟩, fun hh => w'.2 (fun h3 => hh ⟨rfl, h3.2⟩)⟩, fun hh => by simp [tkK] at hh, fun hh => by simp [tkK] at hh, fun hh => by simp [tkK] at hh, fun hh => by simp [tkK] at hh, fun hh => by simp [tkK] at hh⟩
          refine k_takeNumber tx5 a5 hrp hrn (fun h45 => fin true _ ?_) (fun h45 => fin false _ ?_)
          · rw [if_pos h45] at H; exact H
          · rw [if_neg h45] at H; exact H
        · have c : isSm (T p) = true := by
            by_cases c : isSm (T p) = true
            · exact c
            · rw [if_neg c] at hh; exact absurd rfl hh
          rw [if_pos c] at H
          refine k_takeName tx5 a5 hrp hrn (fun s' hs s16 e16 => ?_)
          obtain ⟨q1, q2, q3, q4, q5, q6⟩ := hs
          generalize hl : slT T (e - p) p = l at H q5 q6
          apply H
          have F' := F5.trans q1
          have w' : wrM s s16 (¬ (e - p ≤ 12 ∧ l.all isSm)) 1 (nI p) := by
            subst e16
            exact ⟨fun hh => q5.1 ⟨hh.1, by rw [b5.1]; exact hh.2⟩, fun hh => ⟨(q5.2 (fun h3 => hh ⟨h3.1, by rw [← b5.1]; exact h3.2⟩)).1.trans b5.1, (q5.2 (fun h3 => hh ⟨h3.1, by rw [← b5.1]; exact h3.2⟩)).2.trans b5.2⟩⟩
          have f16 : nxF s s16 := by subst e16; exact F'.wI (by omega)
          have a16 : (sI s16 139 10) = nI e := by subst e16; rfl
          have t16 : (sI s16 139 11) = nI 2 := by subst e16; exact q4
          have p16 : (sI s16 139 12) = nI p := by subst e16; exact q3.trans tp5
          have n16 : (e - p ≤ 12 ∧ l.all isSm) → (sJ s16 139 13) = Int64.ofInt (c27 0 l) := by subst e16; exact q6
          by_cases g : (e - p ≤ 12 ∧ l.all isSm)
          · have et : ∃ (k : Nat) (v : Int), (k = 5 ∨ k = 6) ∧ nmTok p e l = (k, p, v, l, e) := by
              unfold nmTok; rw [if_pos g]; split
              · exact ⟨6, _, Or.inr rfl, rfl⟩
              · exact ⟨5, _, Or.inl rfl, rfl⟩
            obtain ⟨k, v, hk, et⟩ := et
            rw [et]
            refine ⟨f16, a16, p16, ⟨fun hh => ?_, fun _ => w'.2 (fun hh => hh.1 g)⟩, fun hh => ?_, fun hh => ?_, fun hh => ?_, fun hh => ?_, fun _ => ⟨t16, n16 g⟩⟩
            · have := hh.1; simp [tkK] at this; omega
            · simp [tkK] at hh; omega
            · simp [tkK] at hh; omega
            · simp [tkK] at hh; omega
            · simp [tkK] at hh; omega
          · have et : nmTok p e l = (1, p, 0, [], e) := by unfold nmTok; rw [if_neg g]
            rw [et]
            exact ⟨f16, a16, p16, ⟨fun hh => w'.1 ⟨g, hh.2⟩, fun hh => w'.2 (fun h3 => hh ⟨rfl, h3.2⟩)⟩, fun hh => by simp [tkK] at hh, fun hh => by simp [tkK] at hh, fun hh => by simp [tkK] at hh, fun hh => by simp [tkK] at hh, fun hh => by simp [tkK] at hh⟩
      have hL : ∀ (m k : Nat), n - k = m → k ≤ n → runT T m k = e → P132 (nI k) := by
        intro m
        induction m with
        | zero =>
          intro k hm hk hr
          unfold runT at hr; subst hr
          apply hP132
          refine k_letterAt tx5 (by omega) ?_
          rw [if_neg (by omega), nI_0U]
          refine k_isOfWord (by omega) ?_
          rw [if_neg (by decide)]
          exact ⟨fun _ => hE, fun hh => absurd rfl hh⟩
        | succ m ih =>
          intro k hm hk hr
          apply hP132
          refine k_letterAt tx5 (by omega) ?_
          rw [if_pos (by omega)]
          refine k_isOfWord (h.2.2.2 k) ⟨fun hh => ?_, fun hh x19 e19 => ?_⟩
          · have c : ¬ isWd (T k) = true := by intro c; rw [if_pos c] at hh; exact absurd hh (by decide)
            rw [runT, if_neg c] at hr; subst hr
            exact hE
          · have c : isWd (T k) = true := by
              by_cases c : isWd (T k) = true
              · exact c
              · rw [if_neg c] at hh; exact absurd rfl hh
            rw [runT, if_pos c] at hr
            subst e19; rw [nI_s]
            exact ih (k + 1) (by omega) (by omega) hr
      exact hL (n - p) p rfl (by omega) hre
    · -- no token
      have hwd : isWd (T p) = false := by
        by_cases c : isWd (T p) = true
        · rw [if_pos c] at hw; exact absurd hw (by decide)
        · exact Bool.eq_false_iff.mpr c
      have et : tokAt T n p = (1, p, 0, [], p) := by
        unfold tokAt; rw [if_neg (by omega), if_neg h40, if_neg h41, if_pos hwd]
      rw [et] at H
      refine k_wrongM b5 F5 (fun s' F' hi hj hw' s22 e22 => H s22 ⟨?_, ?_, ?_, ?_, fun hh => by simp [tkK] at hh, fun hh => by simp [tkK] at hh, fun hh => by simp [tkK] at hh, fun hh => by simp [tkK] at hh, fun hh => by simp [tkK] at hh⟩)
      · subst e22; exact F'.wI (by omega)
      · subst e22; rw [sI_w, if_neg (by omega), hi _ (by omega) (by omega), a5]; rfl
      · subst e22; rw [sI_w, if_neg (by omega), hi _ (by omega) (by omega), tp5]; rfl
      · subst e22; exact ⟨fun hh => hw'.1 ⟨trivial, hh.2⟩, fun hh => hw'.2 (fun h3 => hh ⟨rfl, h3.2⟩)⟩

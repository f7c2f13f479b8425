/-! ===== PURE: the reference reads a program ===== -/
section
variable {s : yS} {B : Nat → Nat} {nb : Nat}
/-- reading goes well so far, at byte j -/
def rgM (s : yS) (B : Nat → Nat) (nb j : Nat) : Prop := byM s B nb ∧ (sI s 139 15) = 0 ∧ (sI s 139 113) = nI j ∧ j ≤ nb ∧ (sI s 139 16) = -1
/-- there was a fault -/
def rbM (s : yS) (e : Nat × Nat) : Prop := (sI s 139 15) = nI e.1 ∧ (sI s 139 16) = nI e.2 ∧ 1 ≤ e.1 ∧ e.1 ≤ 8
def dNb (a i : Nat) : Prop := a = 139 ∧ (i = 113 ∨ i = 15 ∨ i = 16)
theorem byM.fr {s' : yS} (h : byM s B nb) (h1 : (sI s' 139 2) = (sI s 139 2)) (h2 : ∀ i, sI s' 140 i = sI s 140 i) : byM s' B nb :=
  ⟨h.1, h1.trans h.2.1, fun k hk => (h2 k).trans (h.2.2.1 k hk), h.2.2.2⟩
theorem byM.ofN {s' : yS} (h : byM s B nb) (F : frM dNb s s') : byM s' B nb := h.fr (F.1 _ _ (by unfold dNb; omega)) (fun i => F.1 _ _ (by unfold dNb; omega))
theorem rb_pos {e : Nat × Nat} (h : rbM s e) : 0 < sI s 139 15 ∧ ¬ sI s 139 15 = 0 := by
  obtain ⟨h1, _, h3, h4⟩ := h
  rw [h1]
  refine ⟨by rw [nI_0U, nI_ltU (by omega) (by omega)]; omega, fun hh => ?_⟩
  rw [nI_0U, nI_inj (by omega) (by omega)] at hh; omega
theorem k_wrongN {v1 v2 : Nat} {Q : yS → Prop} (hb : (sI s 139 15) = 0) (h1 : 1 ≤ v1) (h8 : v1 ≤ 8) (H : ∀ s', frM (fun a i => a = 139 ∧ (i = 15 ∨ i = 16)) s s' → rbM s' (v1, v2) → Q s') : W_X12_wrong s (nI v1) (nI v2) Q := by
  unfold W_X12_wrong
  rw [hb]
  refine ⟨fun hh => absurd rfl hh, fun _ => ?_⟩
  intro s1 e1 s2 e2
  refine H s2 ?_ ⟨?_, ?_, h1, h8⟩
  · subst e2; subst e1; exact (frM.rfl'.wI (by omega)).wI (by omega)
  · subst e2; rw [sI_w, if_neg (by omega)]; subst e1; rw [sI_w, if_pos ⟨rfl, rfl⟩]
  · subst e2; rw [sI_w, if_pos ⟨rfl, rfl⟩]
theorem k_byteNext {j : Nat} {Q : Int32 → yS → Prop} (h : rgM s B nb j)
    (H1 : j < nb → ∀ s', frM dNb s s' → rgM s' B nb (j + 1) → Q (nI (B j)) s')
    (H0 : j = nb → ∀ s', frM dNb s s' → rbM s' (1, nb) → Q 0 s') : W_X12_byteNext s Q := by
  obtain ⟨hy, hb, hp, hj, hw⟩ := h
  obtain ⟨hn, hm, hbs, hb3⟩ := id hy
  unfold W_X12_byteNext
  intro P18 hP18
  rw [hb]
  refine ⟨fun hh => absurd hh (by decide), fun _ => ?_⟩
  rw [hp, hm, nI_inj (by omega) (by omega)]
  refine ⟨fun hne => ?_, fun he => ?_⟩
  · rw [nI_s]
    intro s2 e2
    have p2 : sI s2 139 113 = nI (j + 1) := by subst e2; rw [sI_w, if_pos ⟨rfl, rfl⟩]
    have F2 : frM dNb s s2 := by subst e2; exact frM.rfl'.wI (by unfold dNb; omega)
    rw [p2, nI_p (by omega), Nat.add_sub_cancel, nI_ix (n := j) (by omega), F2.1 140 _ (by unfold dNb; omega), hbs j (by omega)]
    exact ⟨nI_inU (by omega) (by omega), H1 (by omega) s2 F2 ⟨hy.ofN F2, by subst e2; rw [sI_w, if_neg (by omega)]; exact hb, p2, by omega, by subst e2; rw [sI_w, if_neg (by omega)]; exact hw⟩⟩
  · apply hP18
    rw [hm]
    refine k_wrongN hb (v1 := 1) (by omega) (by omega) (fun s1 F1 r1 => ?_)
    exact H0 he s1 (F1.mono (fun a i h => by unfold dNb; omega)) r1
theorem k_byteBad {e : Nat × Nat} {Q : Int32 → yS → Prop} (h : rbM s e) (H : Q 0 s) : W_X12_byteNext s Q := by
  have hp := rb_pos h
  unfold W_X12_byteNext
  intro P18 hP18
  refine ⟨fun _ => ?_, fun hh => absurd hp.1 hh⟩
  apply hP18
  exact ⟨fun _ => H, fun hh => absurd hh hp.2⟩
theorem k_numberBad {e : Nat × Nat} {w : Nat} {v2 v3 : Int32} {Q : Int32 → yS → Prop} (hw : w ≤ 4) (h : rbM s e) (H : ∀ v, Q v s) : W_X12_numberNext s (nI w) v2 v3 Q := by
  have hp := rb_pos h
  unfold W_X12_numberNext
  intro x1 e1 P12 hP12
  suffices hL : ∀ (r k : Nat) (x2 : Int32), k + r = w → P12 x2 (nI k) s from hL w 0 0 (by omega)
  intro r
  induction r with
  | zero =>
    intro k x2 hk
    apply hP12
    rw [nI_leU (by omega) (by omega)]
    exact ⟨fun _ => ⟨fun _ => H x2, fun hh => absurd hh hp.2⟩, fun hh => absurd (by omega) hh⟩
  | succ r ih =>
    intro k x2 hk
    apply hP12
    rw [nI_leU (by omega) (by omega)]
    refine ⟨fun hh => absurd hh (by omega), fun _ => k_byteBad h ?_⟩
    intro x8 e8 x9 e9
    subst e9; rw [nI_s]
    exact ih (k + 1) x8 (by omega)
theorem k_numberNext {w j : Nat} {lo hi : Int32} {Q : Int32 → yS → Prop} (hw : w ≤ 4) (h : rgM s B nb j)
    (Hok : ∀ v, bdN B nb w lo hi j = .ok v → ∀ s', frM dNb s s' → rgM s' B nb (j + w) → Q v s')
    (Herr : ∀ e, bdN B nb w lo hi j = .error e → ∀ v s', frM dNb s s' → rbM s' e → Q v s') : W_X12_numberNext s (nI w) lo hi Q := by
  unfold W_X12_numberNext
  intro x1 e1 P12 hP12
  rw [h.2.2.1] at e1
  subst e1
  have hnb := h.1.1
  -- behind a fault
  have bad : ∀ (e : Nat × Nat) (r k : Nat) (x2 : Int32) (s4 : yS), bdN B nb w lo hi j = .error e → k + r = w → frM dNb s s4 → rbM s4 e → P12 x2 (nI k) s4 := by
    intro e r
    induction r with
    | zero =>
      intro k x2 s4 he hk F4 b4
      apply hP12
      rw [nI_leU (by omega) (by omega)]
      exact ⟨fun _ => ⟨fun _ => Herr e he x2 s4 F4 b4, fun hh => absurd hh (rb_pos b4).2⟩, fun hh => absurd (by omega) hh⟩
    | succ r ih =>
      intro k x2 s4 he hk F4 b4
      apply hP12
      rw [nI_leU (by omega) (by omega)]
      refine ⟨fun hh => absurd hh (by omega), fun _ => k_byteBad b4 ?_⟩
      intro x8 e8 x9 e9
      subst e9; rw [nI_s]
      exact ih (k + 1) x8 s4 he (by omega) F4 b4
  suffices hL : ∀ (r k : Nat) (s4 : yS), k + r = w → frM dNb s s4 → rgM s4 B nb (j + k) → P12 (vB B j k) (nI k) s4 from hL w 0 s (by omega) frM.rfl' h
  intro r
  induction r with
  | zero =>
    intro k s4 hk F4 g4
    have hkw : k = w := by omega
    subst hkw
    apply hP12
    rw [nI_leU (by omega) (by omega), g4.2.1]
    refine ⟨fun _ => ⟨fun hh => absurd rfl hh, fun _ => ?_⟩, fun hh => absurd (by omega) hh⟩
    have hjw := g4.2.2.2.1
    intro P55 hP55
    have no : (vB B j k < lo ∨ ¬ vB B j k ≤ hi) → P55 := by
      intro hh
      apply hP55
      refine k_wrongN g4.2.1 (v1 := 3) (by omega) (by omega) (fun s5 F5 r5 => ?_)
      refine Herr (3, j) ?_ _ s5 (F4.trans (F5.mono (fun a i h => by unfold dNb; omega))) r5
      unfold bdN; rw [if_neg (by omega), if_pos hh]
    refine ⟨fun hl => no (Or.inl hl), fun hl => ⟨fun hh => ?_, fun hh => no (Or.inr hh)⟩⟩
    refine Hok _ ?_ s4 F4 g4
    unfold bdN; rw [if_neg (by omega), if_neg (fun h => h.elim hl (fun h => h hh))]
  | succ r ih =>
    intro k s4 hk F4 g4
    apply hP12
    rw [nI_leU (by omega) (by omega)]
    refine ⟨fun hh => absurd hh (by omega), fun _ => k_byteNext g4 (fun hlt s7 F7 g7 => ?_) (fun he s7 F7 b7 => ?_)⟩
    · intro x8 e8 x9 e9
      subst e9; rw [nI_s]; subst e8
      exact ih (k + 1) s7 (by omega) (F4.trans F7) g7
    · intro x8 e8 x9 e9
      subst e9; rw [nI_s]
      refine bad (1, nb) r (k + 1) x8 s7 ?_ (by omega) (F4.trans F7) b7
      unfold bdN; rw [if_pos (by omega)]
def dIn (k a i : Nat) : Prop := dNb a i ∨ ((a = 186 ∨ a = 187) ∧ i = k)
theorem k_readInstruction {f i lc n all j : Nat} {Q : yS → Prop} (hf : f < 12) (hi : i < 400) (hlc : lc ≤ 12) (h : rgM s B nb j) (hl : (sI s 180) (24 + f) = nI lc) (hn : n ≤ 400)
    (Hok : ∀ x j', bdI B nb lc n all j = .ok (x, j') → ∀ s', frM (dIn (9600 + 400 * f + i)) s s' → rgM s' B nb j' → (sI s' 186) (9600 + 400 * f + i) = nI x.1 → (sI s' 187) (9600 + 400 * f + i) = x.2 → Q s')
    (Herr : ∀ e, bdI B nb lc n all j = .error e → ∀ s', frM (dIn (9600 + 400 * f + i)) s s' → rbM s' e → Q s') : W_X12_readInstruction s (nI f) (nI i) (nI n) (nI all) Q := by
  unfold W_X12_readInstruction
  rw [nI_mul, nI_addU, nI_addU, nI_addU, nI_ix (n := 9600 + 400 * f + i) (by omega), nI_ix (n := 24 + f) (by omega)]
  -- behind a fault all is one
  have bad : ∀ (e : Nat × Nat) (r1 x3 : Int32) (s4 : yS), bdI B nb lc n all j = .error e → frM dNb s s4 → rbM s4 e → (vp_in (nI (9600 + 400 * f + i)) 14400 ∧ ∀ s6 : yS, s6 = wI s4 186 (9600 + 400 * f + i) r1 → 
  vp_in (nI (9600 + 400 * f + i)) 14400 ∧ ∀ s8 : yS, s8 = wI s6 187 (9600 + 400 * f + i) x3 → 
  Q s8) := by
    intro e r1 x3 s4 he F4 b4
    refine ⟨nI_inU (by omega) (by omega), ?_⟩
    intro s6 e6
    refine ⟨nI_inU (by omega) (by omega), ?_⟩
    intro s8 e8
    refine Herr e he s8 ?_ ⟨?_, ?_, b4.2.2⟩
    · subst e8; subst e6; exact ((F4.mono (fun a i h => Or.inl h)).wI (Or.inr ⟨Or.inl rfl, rfl⟩)).wI (Or.inr ⟨Or.inr rfl, rfl⟩)
    · subst e8; rw [sI_w, if_neg (by omega)]; subst e6; rw [sI_w, if_neg (by omega)]; exact b4.1
    · subst e8; rw [sI_w, if_neg (by omega)]; subst e6; rw [sI_w, if_neg (by omega)]; exact b4.2.1
  refine k_numberNext (w := 1) (lo := 0) (hi := nI 29) (by omega) h (fun o ho s2 F2 g2 => ?_) (fun e he o s2 F2 b2 => ?_)
  · have hon := bdN_nat (lo := 0) (hi := 29) (by omega) (by omega) ho
    obtain ⟨o', eo, ho29⟩ : ∃ o', o = nI o' ∧ o' ≤ 29 := ⟨ix o, hon.1, hon.2.2⟩
    subst eo
    have hI : bdI B nb lc n all j = (match opW o' lc n all with
      | none => .ok ((o', 0), j + 1)
      | some x => match bdN B nb x.1 x.2.1 x.2.2 (j + 1) with
        | .error e => .error e
        | .ok v => .ok ((o', v), j + 1 + x.1)) := by
      unfold bdI; rw [ho]; dsimp only; rw [nI_ix (by omega)]; rfl
    have l2 : sI s2 180 (24 + f) = nI lc := (F2.1 _ _ (by unfold dNb; omega)).trans hl
    intro P142 hP142
    have fin : ∀ (v : Int32) (s4 : yS) (j' : Nat), bdI B nb lc n all j = .ok ((o', v), j') → frM dNb s s4 → rgM s4 B nb j' → P142 v s4 := by
      intro v s4 j' he F4 g4
      apply hP142
      refine ⟨nI_inU (by omega) (by omega), ?_⟩
      intro s6 e6
      refine ⟨nI_inU (by omega) (by omega), ?_⟩
      intro s8 e8
      have F8 : frM (dIn (9600 + 400 * f + i)) s4 s8 := by subst e8; subst e6; exact (frM.rfl'.wI (Or.inr ⟨Or.inl rfl, rfl⟩)).wI (Or.inr ⟨Or.inr rfl, rfl⟩)
      have G8 : ∀ a k, a = 139 ∨ a = 140 → sI s8 a k = sI s4 a k := fun a k ha => by subst e8; rw [sI_w, if_neg (by omega)]; subst e6; rw [sI_w, if_neg (by omega)]
      refine Hok _ _ he s8 ((F4.mono (fun a i h => Or.inl h)).trans F8) ⟨g4.1.fr (G8 _ _ (Or.inl rfl)) (fun k => G8 _ _ (Or.inr rfl)), (G8 _ _ (Or.inl rfl)).trans g4.2.1, (G8 _ _ (Or.inl rfl)).trans g4.2.2.1, g4.2.2.2.1, (G8 _ _ (Or.inl rfl)).trans g4.2.2.2.2⟩ ?_ ?_
      · subst e8; rw [sI_w, if_neg (by omega)]; subst e6; rw [sI_w, if_pos ⟨rfl, rfl⟩]
      · subst e8; rw [sI_w, if_pos ⟨rfl, rfl⟩]
    have num : ∀ (w : Nat) (lo hi : Int32), w ≤ 4 → opW o' lc n all = some (w, lo, hi) → W_X12_numberNext s2 (nI w) lo hi (fun r t => P142 r t) := by
      intro w lo hi hw hop
      rw [hop] at hI
      dsimp only at hI
      refine k_numberNext hw g2 (fun v hv s4 F4 g4 => ?_) (fun e he v s4 F4 b4 => ?_)
      · rw [hv] at hI
        exact fin v s4 _ hI (F2.trans F4) g4
      · rw [he] at hI
        exact hP142 v s4 (bad e _ v s4 hI (F2.trans F4) b4)
    have hc : ∀ k, k ≤ 29 → (nI o' = nI k ↔ o' = k) := fun k hk => nI_inj (by omega) (by omega)
    have hc0 : nI o' = 0 ↔ o' = 0 := hc 0 (by omega)
    rw [hc0, hc 4 (by omega), hc 5 (by omega), hc 25 (by omega), hc 26 (by omega), hc 29 (by omega), nI_leU (by omega) (by omega), nI_leU (by omega) (by omega), l2]
    refine ⟨fun h0 => ?_, fun h0 => num 4 _ _ (by omega) (by unfold opW; rw [if_pos h0])⟩
    intro P46 hP46
    have h46 : (o' = 4 ∨ o' = 5) → P46 := fun h45 => hP46 ⟨nI_inU (by omega) (by omega), num 1 _ _ (by omega) (by unfold opW; rw [if_neg h0, if_pos h45])⟩
    refine ⟨fun h4 => h46 (Or.inl h4), fun h4 => ⟨fun h5 => ?_, fun h5 => h46 (Or.inr h5)⟩⟩
    intro P96 hP96
    have h96 : ¬ (17 < o' ∧ o' < 21) → P96 := by
      intro hj
      apply hP96
      refine ⟨fun h25 => ?_, fun h25 => num 1 _ _ (by omega) (by unfold opW; rw [if_neg h0, if_neg (by omega), if_neg hj, if_pos h25])⟩
      intro P132 hP132
      have h132 : (o' = 26 ∨ o' = 29) → P132 := fun hh => hP132 (num 1 _ _ (by omega) (by unfold opW; rw [if_neg h0, if_neg (by omega), if_neg hj, if_neg h25, if_pos hh]))
      refine ⟨fun h26 => h132 (Or.inl h26), fun h26 => ⟨fun h29 => ?_, fun h29 => h132 (Or.inr h29)⟩⟩
      refine fin 0 s2 (j + 1) ?_ F2 g2
      rw [hI, show opW o' lc n all = none by unfold opW; rw [if_neg h0, if_neg (by omega), if_neg hj, if_neg h25, if_neg (by omega)]]
    exact ⟨fun hle => h96 (by omega), fun hle => ⟨fun hge => h96 (by omega), fun hge => num 2 _ _ (by omega) (by unfold opW; rw [if_neg h0, if_neg (by omega), if_pos (by omega)])⟩⟩
  · have he' : bdI B nb lc n all j = .error e := by unfold bdI; rw [he]
    intro P142 hP142
    have fin : ∀ v, P142 v s2 := fun v => hP142 v s2 (bad e o v s2 he' F2 b2)
    have num : ∀ (w : Nat) (lo hi : Int32), w ≤ 4 → W_X12_numberNext s2 (nI w) lo hi (fun r t => P142 r t) := fun w lo hi hw => k_numberBad hw b2 fin
    refine ⟨fun h0 => ?_, fun h0 => num 4 _ _ (by omega)⟩
    intro P46 hP46
    have h46 : P46 := hP46 ⟨nI_inU (by omega) (by omega), num 1 _ _ (by omega)⟩
    refine ⟨fun h4 => h46, fun h4 => ⟨fun h5 => ?_, fun h5 => h46⟩⟩
    intro P96 hP96
    have h96 : P96 := by
      apply hP96
      refine ⟨fun h25 => ?_, fun h25 => num 1 _ _ (by omega)⟩
      intro P132 hP132
      have h132 : P132 := hP132 (num 1 _ _ (by omega))
      exact ⟨fun _ => h132, fun _ => ⟨fun _ => fin 0, fun _ => h132⟩⟩
    exact ⟨fun hle => h96, fun hle => ⟨fun hge => h96, fun hge => num 2 _ _ (by omega)⟩⟩
end

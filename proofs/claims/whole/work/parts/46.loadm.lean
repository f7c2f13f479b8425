/-! ===== PURE: loadPolicy of the reference ===== -/
def polP (T : Nat → Nat) (n : Nat) : PE (PS × List Int32) := match pAll T n with
  | .error e => .error e
  | .ok ps => if 512 < offs ps 16 then .error (7, n) else match setsOf ps with
    | none => .error (8, n)
    | some S => .ok (ps, S)
def byM (s : yS) (B : Nat → Nat) (n : Nat) : Prop := n ≤ 8192 ∧ (sI s 139 2) = nI n ∧ (∀ k, k < n → (sI s 140) k = nI (B k)) ∧ ∀ k, B k < 256
section
variable {s : yS}
theorem k_resetWatch {Q : yS → Prop} (H : ∀ s', frM (fun a i => (a = 139 ∧ (i = 0 ∨ i = 99)) ∨ a = 206) s s' → (sI s' 139 99) = 1 → (∀ k, k < 6 → (sI s' 206) k = 0) → Q s') : W_X12_resetWatch s Q := by
  unfold W_X12_resetWatch
  intro s1 e1 s2 e2 P12 hP12
  have F2 : frM (fun a i => (a = 139 ∧ (i = 0 ∨ i = 99)) ∨ a = 206) s s2 := by subst e2; subst e1; exact (frM.rfl'.wI (by omega)).wI (by omega)
  have w2 : (sI s2 139 99) = 1 := by subst e2; rw [sI_w, if_pos ⟨rfl, rfl⟩]
  clear e2 e1
  suffices hL : ∀ (r k : Nat) (s4 : yS), k + r = 6 → frM (fun a i => (a = 139 ∧ (i = 0 ∨ i = 99)) ∨ a = 206) s s4 → (sI s4 139 99) = 1 → (∀ j, j < k → (sI s4 206) j = 0) → P12 (nI k) s4 from hL 6 0 s2 (by omega) F2 w2 (fun j hj => by omega)
  intro r
  induction r with
  | zero =>
    intro k s4 hk F4 w4 z4
    apply hP12
    rw [nI_leU (by omega) (by omega)]
    exact ⟨fun _ => H s4 F4 w4 (fun j hj => z4 j (by omega)), fun hh => absurd (by omega) hh⟩
  | succ r ih =>
    intro k s4 hk F4 w4 z4
    apply hP12
    rw [nI_leU (by omega) (by omega), nI_ix (n := k) (by omega)]
    refine ⟨fun hh => absurd hh (by omega), fun _ => ⟨nI_inU (by omega) (by omega), ?_⟩⟩
    intro s6 e6 x7 e7
    subst e7; rw [nI_s]
    refine ih (k + 1) s6 (by omega) (by subst e6; exact F4.wI (by omega)) (by subst e6; rw [sI_w, if_neg (by omega)]; exact w4) (fun j hj => ?_)
    subst e6
    by_cases c : j = k
    · subst c; rw [sI_w, if_pos ⟨rfl, rfl⟩]
    · rw [sI_w, if_neg (by omega)]; exact z4 j (by omega)
def dLp (a i : Nat) : Prop := (a = 139 ∧ (i = 0 ∨ i = 6 ∨ i = 7 ∨ (9 ≤ i ∧ i ≤ 16) ∨ i = 19 ∨ i = 25 ∨ i = 27 ∨ i = 34 ∨ i = 41 ∨ i = 43 ∨ i = 47 ∨ i = 51 ∨ i = 56)) ∨ (142 ≤ a ∧ a ≤ 176) ∨ (200 ≤ a ∧ a ≤ 202)
def dLq (a i : Nat) : Prop := dLp a i ∨ (a = 139 ∧ (i = 89 ∨ i = 99)) ∨ (a = 177 ∧ i = 1) ∨ a = 206
theorem k_loadPolicy {T B : Nat → Nat} {n nb : Nat} {ps0' : PS} {S0 : List Int32} {Q : Int32 → yS → Prop} (hy : byM s B nb) (ht : txM s T n) (hold : polP T n = .ok (ps0', S0))
    (Hok : ∀ ps S, polP B nb = .ok (ps, S) → mkd ps S → pN ps ≠ [] → ∀ s', frM dLq s s' → txM s' B nb → plM s' ps S → (sI s' 200) 0 = 0 → (sI s' 200) 1 = 0 → (sI s' 139 6) = 0 → (sI s' 139 7) = -1 → (sI s' 177) 1 = 0 → (sI s' 139 89) = 0 → (sI s' 139 99) = 1 → (∀ k, k < 6 → (sI s' 206) k = 0) → Q 0 s')
    (Herr : ∀ e, polP B nb = .error e → 1 ≤ e.1 → e.1 ≤ 8 → ∀ s', frM dLp s s' → txM s' T n → mkd ps0' S0 → plM s' ps0' S0 → (sI s' 200) 0 = 0 → (sI s' 200) 1 = 0 → (sI s' 139 6) = nI e.1 → (sI s' 139 7) = nI e.2 → Q (nI e.1) s') : W_X12_loadPolicy s Q := by
  obtain ⟨hn, ht1, ht2, ht3⟩ := ht
  obtain ⟨hnb, hb1, hb2, hb3⟩ := hy
  unfold W_X12_loadPolicy
  intro s1 e1
  have F1 : frM dLp s s1 := by subst e1; exact frM.rfl'.wI (by unfold dLp; omega)
  have tm1 : (sI s1 139 9) = nI n := by subst e1; rw [sI_w, if_neg (by omega)]; exact ht1
  have tx1 : ∀ k, k < n → (sI s1 143) k = nI (T k) := fun k hk => by subst e1; rw [sI_w, if_neg (by omega)]; exact ht2 k hk
  clear e1
  intro P7 hP7
  suffices hL : ∀ (r k : Nat) (s3 : yS), k + r = n → frM dLp s s3 → (sI s3 139 9) = nI n → (∀ k, k < n → (sI s3 143) k = nI (T k)) → (∀ j, j < k → (sI s3 142) j = nI (T j)) → P7 (nI k) s3 from hL n 0 s1 (by omega) F1 tm1 tx1 (fun j hj => by omega)
  intro r
  induction r with
  | succ r ih =>
    intro k s3 hk F3 tm3 tx3 kt3
    apply hP7
    rw [tm3, nI_leU (by omega) (by omega), nI_ix (n := k) (by omega), tx3 k (by omega)]
    refine ⟨fun hh => absurd hh (by omega), fun _ => ⟨nI_inU (by omega) (by omega), nI_inU (by omega) (by omega), ?_⟩⟩
    intro s32 e32 x33 e33
    subst e33; rw [nI_s]
    refine ih (k + 1) s32 (by omega) (by subst e32; exact F3.wI (by unfold dLp; omega)) (by subst e32; rw [sI_w, if_neg (by omega)]; exact tm3) (fun j hj => by subst e32; rw [sI_w, if_neg (by omega)]; exact tx3 j hj) (fun j hj => ?_)
    subst e32
    by_cases c : j = k
    · subst c; rw [sI_w, if_pos ⟨rfl, rfl⟩]
    · rw [sI_w, if_neg (by omega)]; exact kt3 j (by omega)
  | zero =>
    intro k s3 hk F3 tm3 tx3 kt3
    have hkn : k = n := by omega
    subst hkn
    apply hP7
    rw [tm3, nI_leU (by omega) (by omega)]
    refine ⟨fun _ => ?_, fun hh => absurd (by omega) hh⟩
    intro x4 e4
    subst e4
    intro P40 hP40
    suffices hB : ∀ (r j : Nat) (s6 : yS), j + r = nb → frM dLp s s6 → (∀ j, j < k → (sI s6 142) j = nI (T j)) → (∀ i, i < j → (sI s6 143) i = nI (B i)) → P40 (nI j) s6 from hB nb 0 s3 (by omega) F3 kt3 (fun j hj => by omega)
    intro r
    induction r with
    | succ r ih =>
      intro j s6 hj F6 kt6 tx6
      apply hP40
      rw [F6.1 139 2 (by unfold dLp; omega), hb1, nI_leU (by omega) (by omega), nI_ix (n := j) (by omega), F6.1 140 _ (by unfold dLp; omega), hb2 j (by omega)]
      refine ⟨fun hh => absurd hh (by omega), fun _ => ⟨nI_inU (by omega) (by omega), nI_inU (by omega) (by omega), ?_⟩⟩
      intro s28 e28 x29 e29
      subst e29; rw [nI_s]
      refine ih (j + 1) s28 (by omega) (by subst e28; exact F6.wI (by unfold dLp; omega)) (fun i hi => by subst e28; rw [sI_w, if_neg (by omega)]; exact kt6 i hi) (fun i hi => ?_)
      subst e28
      by_cases c : i = j
      · subst c; rw [sI_w, if_pos ⟨rfl, rfl⟩]
      · rw [sI_w, if_neg (by omega)]; exact tx6 i (by omega)
    | zero =>
      intro j s6 hj F6 kt6 tx6
      have hjn : j = nb := by omega
      subst hjn
      apply hP40
      rw [F6.1 139 2 (by unfold dLp; omega), hb1, nI_leU (by omega) (by omega)]
      refine ⟨fun _ => ?_, fun hh => absurd (by omega) hh⟩
      intro s7 e7
      have F7 : frM dLp s s7 := by subst e7; exact F6.wI (by unfold dLp; omega)
      have x7 : txM s7 B j := ⟨hnb, by subst e7; rw [sI_w, if_pos ⟨rfl, rfl⟩], fun i hi => by subst e7; rw [sI_w, if_neg (by omega)]; exact tx6 i hi, hb3⟩
      have kt7 : ∀ j, j < k → (sI s7 142) j = nI (T j) := fun i hi => by subst e7; rw [sI_w, if_neg (by omega)]; exact kt6 i hi
      clear e7
      -- what happens with a fault
      have bad : ∀ (e : Nat × Nat) (s9 : yS), polP B j = .error e → 1 ≤ e.1 → e.1 ≤ 8 → frM dLp s s9 → (∀ j, j < k → (sI s9 142) j = nI (T j)) → (sI s9 139 15) = nI e.1 → (sI s9 139 16) = nI e.2 → ∀ s10 : yS, s10 = wI s9 139 6 (sI s9 139 15) → ∀ s11 : yS, s11 = wI s10 139 7 (sI s10 139 16) → ∀ s16 : yS, s16 = wI s11 139 9 (nI k) → 
       ∀ P119 : Int32 → yS → Prop, (∀ (x17 : Int32) (s18 : yS), ((((sI s18 139 9) ≤ x17 → W_X12_readPolicy s18 
         (fun s19 => W_X12_makeTables s19 
         (fun s20 => Q (sI s20 139 6) s20)))
        ∧ (¬ (sI s18 139 9) ≤ x17 → vp_in x17 8192 ∧ 
         vp_in x17 8192 ∧ ∀ s23 : yS, s23 = wI s18 143 (ix x17) (sI s18 142 (ix x17)) → 
         ∀ x24 : Int32, x24 = (x17 + 1) → 
         P119 x24 s23))) → P119 x17 s18) → 
       P119 0 s16 := by
        intro e s9 he he1 he8 F9 kt9 b9 w9 s10 e10 s11 e11 s16 e16 P119 hP119
        have F16 : frM dLp s s16 := by subst e16; subst e11; subst e10; exact ((F9.wI (by unfold dLp; omega)).wI (by unfold dLp; omega)).wI (by unfold dLp; omega)
        have tm16 : (sI s16 139 9) = nI k := by subst e16; rw [sI_w, if_pos ⟨rfl, rfl⟩]
        have kt16 : ∀ j, j < k → (sI s16 142) j = nI (T j) := fun i hi => by subst e16; rw [sI_w, if_neg (by omega)]; subst e11; rw [sI_w, if_neg (by omega)]; subst e10; rw [sI_w, if_neg (by omega)]; exact kt9 i hi
        have f16 : (sI s16 139 6) = nI e.1 := by subst e16; rw [sI_w, if_neg (by omega)]; subst e11; rw [sI_w, if_neg (by omega)]; subst e10; rw [sI_w, if_pos ⟨rfl, rfl⟩]; exact b9
        have p16 : (sI s16 139 7) = nI e.2 := by subst e16; rw [sI_w, if_neg (by omega)]; subst e11; rw [sI_w, if_pos ⟨rfl, rfl⟩]; subst e10; rw [sI_w, if_neg (by omega)]; exact w9
        clear e16 e11 e10
        suffices hC : ∀ (r i : Nat) (s18 : yS), i + r = k → frM dLp s s18 → (sI s18 139 9) = nI k → (∀ j, j < k → (sI s18 142) j = nI (T j)) → (sI s18 139 6) = nI e.1 → (sI s18 139 7) = nI e.2 → (∀ j, j < i → (sI s18 143) j = nI (T j)) → P119 (nI i) s18 from hC k 0 s16 (by omega) F16 tm16 kt16 f16 p16 (fun j hj => by omega)
        intro r
        induction r with
        | succ r ih =>
          intro i s18 hi F18 tm18 kt18 f18 p18 tx18
          apply hP119
          rw [tm18, nI_leU (by omega) (by omega), nI_ix (n := i) (by omega), kt18 i (by omega)]
          refine ⟨fun hh => absurd hh (by omega), fun _ => ⟨nI_inU (by omega) (by omega), nI_inU (by omega) (by omega), ?_⟩⟩
          intro s23 e23 x24 e24
          subst e24; rw [nI_s]
          refine ih (i + 1) s23 (by omega) (by subst e23; exact F18.wI (by unfold dLp; omega)) (by subst e23; rw [sI_w, if_neg (by omega)]; exact tm18) (fun j hj => by subst e23; rw [sI_w, if_neg (by omega)]; exact kt18 j hj) (by subst e23; rw [sI_w, if_neg (by omega)]; exact f18) (by subst e23; rw [sI_w, if_neg (by omega)]; exact p18) (fun j hj => ?_)
          subst e23
          by_cases c : j = i
          · subst c; rw [sI_w, if_pos ⟨rfl, rfl⟩]
          · rw [sI_w, if_neg (by omega)]; exact tx18 j (by omega)
        | zero =>
          intro i s18 hi F18 tm18 kt18 f18 p18 tx18
          apply hP119
          rw [tm18, nI_leU (by omega) (by omega)]
          refine ⟨fun _ => ?_, fun hh => absurd (by omega) hh⟩
          have x18 : txM s18 T k := ⟨hn, tm18, fun j hj => tx18 j (by omega), ht3⟩
          refine k_readPolicy x18 (fun ps hps hwf hl hN s19 F19 b19 w19 p19 => ?_) (fun e' he' _ _ => ?_)
          · unfold polP at hold
            rw [hps] at hold
            have hpr : pRes ps = none := by
              unfold pAll at hps
              split at hps
              · exact absurd hps (by simp)
              · rename_i ps' _
                split at hps
                · exact absurd hps (by simp)
                · rename_i hh; cases hps; exact hh
            have x19 : txM s19 T k := x18.fr (F19.1 _ _ (by unfold dP; omega)) (fun i => F19.1 _ _ (by unfold dP; omega))
            have hres := pRes_ok hpr
            refine k_makeTables hn x19.2.1 p19 hwf hl hres b19 (fun S hmk s20 F20 pl20 m0 m1 => ?_) (fun ho => ?_) (fun ho hS => ?_)
            · have hold' := hold
              simp only [if_neg (show ¬ 512 < offs ps 16 by have := hmk.2.2.2.1; omega), hmk.2.2.2.2.1] at hold'
              have hS : ps = ps0' ∧ S = S0 := by cases hold'; exact ⟨rfl, rfl⟩
              obtain ⟨rfl, rfl⟩ := hS
              have f20 : (sI s20 139 6) = nI e.1 := by rw [F20.1 _ _ (by unfold dMo; omega), F19.1 _ _ (by unfold dP; omega)]; exact f18
              have p20 : (sI s20 139 7) = nI e.2 := by rw [F20.1 _ _ (by unfold dMo; omega), F19.1 _ _ (by unfold dP; omega)]; exact p18
              rw [f20]
              exact Herr e he he1 he8 s20 (F18.trans ((F19.mono (fun a i h => by unfold dP at h; unfold dLp; omega)).trans (F20.mono (fun a i h => by unfold dMo at h; unfold dLp; omega)))) (x19.fr (F20.1 _ _ (by unfold dMo; omega)) (fun i => F20.1 _ _ (by unfold dMo; omega))) hmk pl20 m0 m1 f20 p20
            · simp only [if_pos ho] at hold; exact absurd hold (by simp)
            · simp only [if_neg (show ¬ 512 < offs ps 16 by omega), hS] at hold; exact absurd hold (by simp)
          · unfold polP at hold; rw [he'] at hold; exact absurd hold (by simp)
      refine k_readPolicy x7 (fun ps hps hwf hl hN s8 F8 b8 w8 p8 => ?_) (fun e he he1 he8 s8 F8 b8 w8 => ?_)
      · have hpr : pRes ps = none := by
          unfold pAll at hps
          split at hps
          · exact absurd hps (by simp)
          · rename_i ps' _
            split at hps
            · exact absurd hps (by simp)
            · rename_i hh; cases hps; exact hh
        have hres := pRes_ok hpr
        have x8 : txM s8 B j := x7.fr (F8.1 _ _ (by unfold dP; omega)) (fun i => F8.1 _ _ (by unfold dP; omega))
        have F8' : frM dLp s s8 := F7.trans (F8.mono (fun a i h => by unfold dP at h; unfold dLp; omega))
        have kt8 : ∀ j, j < k → (sI s8 142) j = nI (T j) := fun i hi => by rw [F8.1 _ _ (by unfold dP; omega)]; exact kt7 i hi
        intro P89 hP89
        rw [b8]
        refine ⟨fun hh => absurd rfl hh, fun _ => ?_⟩
        refine k_makeTables hnb x8.2.1 p8 hwf hl hres b8 (fun S hmk s9 F9 pl9 m0 m1 => ?_) (fun ho s9 F9 b9 w9 => ?_) (fun ho hS s9 F9 b9 w9 => ?_)
        · apply hP89
          have x9 : txM s9 B j := x8.fr (F9.1 _ _ (by unfold dMo; omega)) (fun i => F9.1 _ _ (by unfold dMo; omega))
          have F9' : frM dLp s s9 := F8'.trans (F9.mono (fun a i h => by unfold dMo at h; unfold dLp; omega))
          have b9 : sI s9 139 15 = 0 := (F9.1 _ _ (by unfold dMo; omega)).trans b8
          have w9 : sI s9 139 16 = -1 := (F9.1 _ _ (by unfold dMo; omega)).trans w8
          rw [b9]
          intro s10 e10 s11 e11
          have f11 : sI s11 139 6 = 0 := by subst e11; rw [sI_w, if_neg (by omega)]; subst e10; rw [sI_w, if_pos ⟨rfl, rfl⟩]
          have pl11 : sI s11 139 7 = -1 := by subst e11; rw [sI_w, if_pos ⟨rfl, rfl⟩]; subst e10; rw [sI_w, if_neg (by omega)]; exact w9
          rw [f11]
          refine ⟨fun _ => ⟨nI_inU (a := 1) (by omega) (by omega), ?_⟩, fun hh => absurd (by decide) hh⟩
          intro s13 e13 s14 e14
          have e1' : ix 1 = 1 := rfl
          rw [e1'] at e13
          have G14 : ∀ a i, ¬ (a = 139 ∧ (i = 6 ∨ i = 7 ∨ i = 89)) → ¬ (a = 177 ∧ i = 1) → sI s14 a i = sI s9 a i := fun a i h1 h2 => by
            subst e14; rw [sI_w, if_neg (by omega)]; subst e13; rw [sI_w, if_neg (by omega)]; subst e11; rw [sI_w, if_neg (by omega)]; subst e10; rw [sI_w, if_neg (by omega)]
          have J14 : ∀ a i, sJ s14 a i = sJ s9 a i := fun a i => by subst e14; subst e13; subst e11; subst e10; rfl
          have f14 : sI s14 139 6 = 0 := by subst e14; rw [sI_w, if_neg (by omega)]; subst e13; rw [sI_w, if_neg (by omega)]; exact f11
          have p14 : sI s14 139 7 = -1 := by subst e14; rw [sI_w, if_neg (by omega)]; subst e13; rw [sI_w, if_neg (by omega)]; exact pl11
          have h14 : sI s14 177 1 = 0 := by subst e14; rw [sI_w, if_neg (by omega)]; subst e13; rw [sI_w, if_pos ⟨rfl, rfl⟩]; rfl
          have r14 : sI s14 139 89 = 0 := by subst e14; rw [sI_w, if_pos ⟨rfl, rfl⟩]
          have F14 : frM dLq s s14 := by
            subst e14; subst e13; subst e11; subst e10
            exact ((((F9'.mono (fun a i h => Or.inl h)).wI (by unfold dLp; omega)).wI (by unfold dLp; omega)).wI (by unfold dLp; omega)).wI (by unfold dLp; omega)
          clear e14 e13 e11 e10
          refine k_resetWatch (fun s15 F15 w15 z15 => ?_)
          have hpol : polP B j = .ok (ps, S) := by
            unfold polP; rw [hps]
            simp only [if_neg (show ¬ 512 < offs ps 16 by have := hmk.2.2.2.1; omega), hmk.2.2.2.2.1]
          refine Hok ps S hpol hmk hN s15 (F14.trans (F15.mono (fun a i h => by unfold dLq dLp; omega))) (x9.fr ((F15.1 _ _ (by omega)).trans (G14 _ _ (by omega) (by omega))) (fun i => (F15.1 _ _ (by omega)).trans (G14 _ _ (by omega) (by omega)))) (pl9.fr (fun a i ha => (F15.1 _ _ (by omega)).trans (G14 _ _ (by omega) (by omega))) (fun a i ha => (F15.2.1 _ _ (by omega)).trans (J14 _ _))) ((F15.1 _ _ (by omega)).trans ((G14 _ _ (by omega) (by omega)).trans m0)) ((F15.1 _ _ (by omega)).trans ((G14 _ _ (by omega) (by omega)).trans m1)) ((F15.1 _ _ (by omega)).trans f14) ((F15.1 _ _ (by omega)).trans p14) ((F15.1 _ _ (by omega)).trans h14) ((F15.1 _ _ (by omega)).trans r14) w15 z15
        · apply hP89
          have F9' : frM dLp s s9 := F8'.trans (F9.mono (fun a i h => by unfold dMt at h; unfold dLp; omega))
          have hpol : polP B j = .error (7, j) := by unfold polP; rw [hps]; simp only [if_pos ho]
          intro s10 e10 s11 e11
          have f11 : sI s11 139 6 = nI 7 := by subst e11; rw [sI_w, if_neg (by omega)]; subst e10; rw [sI_w, if_pos ⟨rfl, rfl⟩]; exact b9
          rw [f11]
          exact ⟨fun hh => absurd hh (by decide), fun _ s16 e16 => bad (7, j) s9 hpol (by simp) (by simp) F9' (fun i hi => by rw [F9.1 _ _ (by unfold dMt; omega)]; exact kt8 i hi) b9 w9 s10 e10 s11 e11 s16 e16⟩
        · apply hP89
          have F9' : frM dLp s s9 := F8'.trans (F9.mono (fun a i h => by unfold dMt at h; unfold dLp; omega))
          have hpol : polP B j = .error (8, j) := by unfold polP; rw [hps]; simp only [if_neg (show ¬ 512 < offs ps 16 by omega), hS]
          intro s10 e10 s11 e11
          have f11 : sI s11 139 6 = nI 8 := by subst e11; rw [sI_w, if_neg (by omega)]; subst e10; rw [sI_w, if_pos ⟨rfl, rfl⟩]; exact b9
          rw [f11]
          exact ⟨fun hh => absurd hh (by decide), fun _ s16 e16 => bad (8, j) s9 hpol (by simp) (by simp) F9' (fun i hi => by rw [F9.1 _ _ (by unfold dMt; omega)]; exact kt8 i hi) b9 w9 s10 e10 s11 e11 s16 e16⟩
      · have hpol : polP B j = .error e := by unfold polP; rw [he]
        have F8' : frM dLp s s8 := F7.trans (F8.mono (fun a i h => by unfold dP at h; unfold dLp; omega))
        intro P89 hP89
        have hne : ¬ sI s8 139 15 = 0 := by rw [b8]; intro hh; rw [nI_0U, nI_inj (by omega) (by omega)] at hh; omega
        refine ⟨fun _ => ?_, fun hh => absurd hh hne⟩
        apply hP89
        intro s10 e10 s11 e11
        have f11 : sI s11 139 6 = nI e.1 := by subst e11; rw [sI_w, if_neg (by omega)]; subst e10; rw [sI_w, if_pos ⟨rfl, rfl⟩]; exact b8
        rw [f11]
        refine ⟨fun hh => absurd hh ?_, fun _ s16 e16 => bad e s8 hpol he1 he8 F8' (fun i hi => by rw [F8.1 _ _ (by unfold dP; omega)]; exact kt7 i hi) b8 w8 s10 e10 s11 e11 s16 e16⟩
        rw [nI_0U, nI_leU (by omega) (by omega)]; omega
end

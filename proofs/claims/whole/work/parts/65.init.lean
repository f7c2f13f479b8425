section
variable {s : yS}
theorem k_loadPolicy1 {T B : Nat → Nat} {n nb : Nat} {ps0' : PS} {S0 : List Int32} {Q : Int32 → yS → Prop} (hy : byM s B nb) (ht : txM s T n) (hokB : polP B nb = .ok (ps0', S0))
    (Hok : ∀ ps S, polP B nb = .ok (ps, S) → mkd ps S → pN ps ≠ [] → ∀ s', frM dLq s s' → txM s' B nb → plM s' ps S → (sI s' 200) 0 = 0 → (sI s' 200) 1 = 0 → (sI s' 139 6) = 0 → (sI s' 139 7) = -1 → (sI s' 177) 1 = 0 → (sI s' 139 89) = 0 → (sI s' 139 99) = 1 → (∀ k, k < 6 → (sI s' 206) k = 0) → Q 0 s') : W_X12_loadPolicy s Q := by
  obtain ⟨hn, ht1, ht2, ht3⟩ := ht
  obtain ⟨hnb, hb1, hb2, hb3⟩ := hy
  unfold W_X12_loadPolicy
  intro s1 e1
  have F1 : frM dLp s s1 := by subst e1; exact frM.rfl'.wI (by unfold dLp; omega)
  have tm1 : (sI s1 139 9) = nI n := by subst e1; rw [sI_w, if_neg (by omega)]; exact ht1
  have tx1 : ∀ k, k < n → (sI s1 143) k = nI (T k) := fun k hk => by subst e1; rw [sI_w, if_neg (by omega)]; exact ht2 k hk
  clear e1
  intro P7 hP7
  suffices hL : ∀ (r k : Nat) (s3 : yS), k + r = n → frM dLp s s3 → (sI s3 139 9) = nI n → (∀ k, k < n → (sI s3 143) k = nI (T k)) → (∀ j, j < k → (sI s3 142) j = nI (T j)) → P7 (nI k) s3 from hL n 0 s1 (by omega) F1 tm1 tx1 (fun j hj => by omega)
  intro r
  induction r with
  | succ r ih =>
    intro k s3 hk F3 tm3 tx3 kt3
    apply hP7
    rw [tm3, nI_leU (by omega) (by omega), nI_ix (n := k) (by omega), tx3 k (by omega)]
    refine ⟨fun hh => absurd hh (by omega), fun _ => ⟨nI_inU (by omega) (by omega), nI_inU (by omega) (by omega), ?_⟩⟩
    intro s32 e32 x33 e33
    subst e33; rw [nI_s]
    refine ih (k + 1) s32 (by omega) (by subst e32; exact F3.wI (by unfold dLp; omega)) (by subst e32; rw [sI_w, if_neg (by omega)]; exact tm3) (fun j hj => by subst e32; rw [sI_w, if_neg (by omega)]; exact tx3 j hj) (fun j hj => ?_)
    subst e32
    by_cases c : j = k
    · subst c; rw [sI_w, if_pos ⟨rfl, rfl⟩]
    · rw [sI_w, if_neg (by omega)]; exact kt3 j (by omega)
  | zero =>
    intro k s3 hk F3 tm3 tx3 kt3
    have hkn : k = n := by omega
    subst hkn
    apply hP7
    rw [tm3, nI_leU (by omega) (by omega)]
    refine ⟨fun _ => ?_, fun hh => absurd (by omega) hh⟩
    intro x4 e4
    subst e4
    intro P40 hP40
    suffices hB : ∀ (r j : Nat) (s6 : yS), j + r = nb → frM dLp s s6 → (∀ j, j < k → (sI s6 142) j = nI (T j)) → (∀ i, i < j → (sI s6 143) i = nI (B i)) → P40 (nI j) s6 from hB nb 0 s3 (by omega) F3 kt3 (fun j hj => by omega)
    intro r
    induction r with
    | succ r ih =>
      intro j s6 hj F6 kt6 tx6
      apply hP40
      rw [F6.1 139 2 (by unfold dLp; omega), hb1, nI_leU (by omega) (by omega), nI_ix (n := j) (by omega), F6.1 140 _ (by unfold dLp; omega), hb2 j (by omega)]
      refine ⟨fun hh => absurd hh (by omega), fun _ => ⟨nI_inU (by omega) (by omega), nI_inU (by omega) (by omega), ?_⟩⟩
      intro s28 e28 x29 e29
      subst e29; rw [nI_s]
      refine ih (j + 1) s28 (by omega) (by subst e28; exact F6.wI (by unfold dLp; omega)) (fun i hi => by subst e28; rw [sI_w, if_neg (by omega)]; exact kt6 i hi) (fun i hi => ?_)
      subst e28
      by_cases c : i = j
      · subst c; rw [sI_w, if_pos ⟨rfl, rfl⟩]
      · rw [sI_w, if_neg (by omega)]; exact tx6 i (by omega)
    | zero =>
      intro j s6 hj F6 kt6 tx6
      have hjn : j = nb := by omega
      subst hjn
      apply hP40
      rw [F6.1 139 2 (by unfold dLp; omega), hb1, nI_leU (by omega) (by omega)]
      refine ⟨fun _ => ?_, fun hh => absurd (by omega) hh⟩
      intro s7 e7
      have F7 : frM dLp s s7 := by subst e7; exact F6.wI (by unfold dLp; omega)
      have x7 : txM s7 B j := ⟨hnb, by subst e7; rw [sI_w, if_pos ⟨rfl, rfl⟩], fun i hi => by subst e7; rw [sI_w, if_neg (by omega)]; exact tx6 i hi, hb3⟩
      have kt7 : ∀ j, j < k → (sI s7 142) j = nI (T j) := fun i hi => by subst e7; rw [sI_w, if_neg (by omega)]; exact kt6 i hi
      clear e7
      -- what happens with a fault
      have bad : ∀ (e : Nat × Nat) (s9 : yS), polP B j = .error e → 1 ≤ e.1 → e.1 ≤ 8 → frM dLp s s9 → (∀ j, j < k → (sI s9 142) j = nI (T j)) → (sI s9 139 15) = nI e.1 → (sI s9 139 16) = nI e.2 → ∀ s10 : yS, s10 = wI s9 139 6 (sI s9 139 15) → ∀ s11 : yS, s11 = wI s10 139 7 (sI s10 139 16) → ∀ s16 : yS, s16 = wI s11 139 9 (nI k) → 
       ∀ P119 : Int32 → yS → Prop, (∀ (x17 : Int32) (s18 : yS), ((((sI s18 139 9) ≤ x17 → W_X12_readPolicy s18 
         (fun s19 => W_X12_makeTables s19 
         (fun s20 => Q (sI s20 139 6) s20)))
        ∧ (¬ (sI s18 139 9) ≤ x17 → vp_in x17 8192 ∧ 
         vp_in x17 8192 ∧ ∀ s23 : yS, s23 = wI s18 143 (ix x17) (sI s18 142 (ix x17)) → 
         ∀ x24 : Int32, x24 = (x17 + 1) → 
         P119 x24 s23))) → P119 x17 s18) → 
       P119 0 s16 := by
        intro e s9 he
        rw [hokB] at he; exact ok_er he
      refine k_readPolicy x7 (fun ps hps hwf hl hN s8 F8 b8 w8 p8 => ?_) (fun e he he1 he8 s8 F8 b8 w8 => ?_)
      · have hpr : pRes ps = none := by
          unfold pAll at hps
          split at hps
          · exact absurd hps (by simp)
          · rename_i ps' _
            split at hps
            · exact absurd hps (by simp)
            · rename_i hh; cases hps; exact hh
        have hres := pRes_ok hpr
        have x8 : txM s8 B j := x7.fr (F8.1 _ _ (by unfold dP; omega)) (fun i => F8.1 _ _ (by unfold dP; omega))
        have F8' : frM dLp s s8 := F7.trans (F8.mono (fun a i h => by unfold dP at h; unfold dLp; omega))
        have kt8 : ∀ j, j < k → (sI s8 142) j = nI (T j) := fun i hi => by rw [F8.1 _ _ (by unfold dP; omega)]; exact kt7 i hi
        intro P89 hP89
        rw [b8]
        refine ⟨fun hh => absurd rfl hh, fun _ => ?_⟩
        refine k_makeTables hnb x8.2.1 p8 hwf hl hres b8 (fun S hmk s9 F9 pl9 m0 m1 => ?_) (fun ho s9 F9 b9 w9 => ?_) (fun ho hS s9 F9 b9 w9 => ?_)
        · apply hP89
          have x9 : txM s9 B j := x8.fr (F9.1 _ _ (by unfold dMo; omega)) (fun i => F9.1 _ _ (by unfold dMo; omega))
          have F9' : frM dLp s s9 := F8'.trans (F9.mono (fun a i h => by unfold dMo at h; unfold dLp; omega))
          have b9 : sI s9 139 15 = 0 := (F9.1 _ _ (by unfold dMo; omega)).trans b8
          have w9 : sI s9 139 16 = -1 := (F9.1 _ _ (by unfold dMo; omega)).trans w8
          rw [b9]
          intro s10 e10 s11 e11
          have f11 : sI s11 139 6 = 0 := by subst e11; rw [sI_w, if_neg (by omega)]; subst e10; rw [sI_w, if_pos ⟨rfl, rfl⟩]
          have pl11 : sI s11 139 7 = -1 := by subst e11; rw [sI_w, if_pos ⟨rfl, rfl⟩]; subst e10; rw [sI_w, if_neg (by omega)]; exact w9
          rw [f11]
          refine ⟨fun _ => ⟨nI_inU (a := 1) (by omega) (by omega), ?_⟩, fun hh => absurd (by decide) hh⟩
          intro s13 e13 s14 e14
          have e1' : ix 1 = 1 := rfl
          rw [e1'] at e13
          have G14 : ∀ a i, ¬ (a = 139 ∧ (i = 6 ∨ i = 7 ∨ i = 89)) → ¬ (a = 177 ∧ i = 1) → sI s14 a i = sI s9 a i := fun a i h1 h2 => by
            subst e14; rw [sI_w, if_neg (by omega)]; subst e13; rw [sI_w, if_neg (by omega)]; subst e11; rw [sI_w, if_neg (by omega)]; subst e10; rw [sI_w, if_neg (by omega)]
          have J14 : ∀ a i, sJ s14 a i = sJ s9 a i := fun a i => by subst e14; subst e13; subst e11; subst e10; rfl
          have f14 : sI s14 139 6 = 0 := by subst e14; rw [sI_w, if_neg (by omega)]; subst e13; rw [sI_w, if_neg (by omega)]; exact f11
          have p14 : sI s14 139 7 = -1 := by subst e14; rw [sI_w, if_neg (by omega)]; subst e13; rw [sI_w, if_neg (by omega)]; exact pl11
          have h14 : sI s14 177 1 = 0 := by subst e14; rw [sI_w, if_neg (by omega)]; subst e13; rw [sI_w, if_pos ⟨rfl, rfl⟩]; rfl
          have r14 : sI s14 139 89 = 0 := by subst e14; rw [sI_w, if_pos ⟨rfl, rfl⟩]
          have F14 : frM dLq s s14 := by
            subst e14; subst e13; subst e11; subst e10
            exact ((((F9'.mono (fun a i h => Or.inl h)).wI (by unfold dLp; omega)).wI (by unfold dLp; omega)).wI (by unfold dLp; omega)).wI (by unfold dLp; omega)
          clear e14 e13 e11 e10
          refine k_resetWatch (fun s15 F15 w15 z15 => ?_)
          have hpol : polP B j = .ok (ps, S) := by
            unfold polP; rw [hps]
            simp only [if_neg (show ¬ 512 < offs ps 16 by have := hmk.2.2.2.1; omega), hmk.2.2.2.2.1]
          refine Hok ps S hpol hmk hN s15 (F14.trans (F15.mono (fun a i h => by unfold dLq dLp; omega))) (x9.fr ((F15.1 _ _ (by omega)).trans (G14 _ _ (by omega) (by omega))) (fun i => (F15.1 _ _ (by omega)).trans (G14 _ _ (by omega) (by omega)))) (pl9.fr (fun a i ha => (F15.1 _ _ (by omega)).trans (G14 _ _ (by omega) (by omega))) (fun a i ha => (F15.2.1 _ _ (by omega)).trans (J14 _ _))) ((F15.1 _ _ (by omega)).trans ((G14 _ _ (by omega) (by omega)).trans m0)) ((F15.1 _ _ (by omega)).trans ((G14 _ _ (by omega) (by omega)).trans m1)) ((F15.1 _ _ (by omega)).trans f14) ((F15.1 _ _ (by omega)).trans p14) ((F15.1 _ _ (by omega)).trans h14) ((F15.1 _ _ (by omega)).trans r14) w15 z15
        · apply hP89
          have F9' : frM dLp s s9 := F8'.trans (F9.mono (fun a i h => by unfold dMt at h; unfold dLp; omega))
          have hpol : polP B j = .error (7, j) := by unfold polP; rw [hps]; simp only [if_pos ho]
          intro s10 e10 s11 e11
          have f11 : sI s11 139 6 = nI 7 := by subst e11; rw [sI_w, if_neg (by omega)]; subst e10; rw [sI_w, if_pos ⟨rfl, rfl⟩]; exact b9
          rw [f11]
          exact ⟨fun hh => absurd hh (by decide), fun _ s16 e16 => bad (7, j) s9 hpol (by simp) (by simp) F9' (fun i hi => by rw [F9.1 _ _ (by unfold dMt; omega)]; exact kt8 i hi) b9 w9 s10 e10 s11 e11 s16 e16⟩
        · apply hP89
          have F9' : frM dLp s s9 := F8'.trans (F9.mono (fun a i h => by unfold dMt at h; unfold dLp; omega))
          have hpol : polP B j = .error (8, j) := by unfold polP; rw [hps]; simp only [if_neg (show ¬ 512 < offs ps 16 by omega), hS]
          intro s10 e10 s11 e11
          have f11 : sI s11 139 6 = nI 8 := by subst e11; rw [sI_w, if_neg (by omega)]; subst e10; rw [sI_w, if_pos ⟨rfl, rfl⟩]; exact b9
          rw [f11]
          exact ⟨fun hh => absurd hh (by decide), fun _ s16 e16 => bad (8, j) s9 hpol (by simp) (by simp) F9' (fun i hi => by rw [F9.1 _ _ (by unfold dMt; omega)]; exact kt8 i hi) b9 w9 s10 e10 s11 e11 s16 e16⟩
      · have hpol : polP B j = .error e := by unfold polP; rw [he]
        have F8' : frM dLp s s8 := F7.trans (F8.mono (fun a i h => by unfold dP at h; unfold dLp; omega))
        intro P89 hP89
        have hne : ¬ sI s8 139 15 = 0 := by rw [b8]; intro hh; rw [nI_0U, nI_inj (by omega) (by omega)] at hh; omega
        refine ⟨fun _ => ?_, fun hh => absurd hh hne⟩
        apply hP89
        intro s10 e10 s11 e11
        have f11 : sI s11 139 6 = nI e.1 := by subst e11; rw [sI_w, if_neg (by omega)]; subst e10; rw [sI_w, if_pos ⟨rfl, rfl⟩]; exact b8
        rw [f11]
        refine ⟨fun hh => absurd hh ?_, fun _ s16 e16 => bad e s8 hpol he1 he8 F8' (fun i hi => by rw [F8.1 _ _ (by unfold dP; omega)]; exact kt7 i hi) b8 w8 s10 e10 s11 e11 s16 e16⟩
        rw [nI_0U, nI_leU (by omega) (by omega)]; omega
end
/-! ===== the first policy ===== -/
def bs1 : List Nat := [40, 110, 111, 100, 101, 32, 97, 32, 40, 103, 111, 32, 97, 110, 121, 32, 97, 41, 41]
def B1 (k : Nat) : Nat := bs1.getD k 0
def psA : PS := ([], [], [[97]], [(0, -1, 0, 0, [97], 16)], [])
theorem polA : polP B1 19 = .ok (psA, [1]) := rfl
theorem offsA : ∀ c, c ≤ 16 → offs psA c = c := by
  intro c hc
  have : ∀ c ∈ List.range 17, offs psA c = c := by decide
  exact this c (List.mem_range.mpr (by omega))
theorem rbA : ∀ c, c ≤ 16 → rbC psA c = 9 * c := by
  intro c hc
  have : ∀ c ∈ List.range 17, rbC psA c = 9 * c := by decide +kernel
  exact this c (List.mem_range.mpr (by omega))
theorem rowA : ∀ c k, c < 16 → k < 9 → sumL psA c k = k ∧ rowC psA c k = [if k < c % 4 then -2147483648 else 0] := by
  intro c k hc hk
  have : ∀ c ∈ List.range 16, ∀ k ∈ List.range 9, sumL psA c k = k ∧ rowC psA c k = [if k < c % 4 then -2147483648 else 0] := by decide +kernel
  exact this c (List.mem_range.mpr hc) k (List.mem_range.mpr hk)
theorem trA1 : ∀ a, a < 16 → trA psA a 1 = 1 := by
  intro a ha
  have : ∀ a ∈ List.range 16, trA psA a 1 = 1 := by decide +kernel
  exact this a (List.mem_range.mpr ha)
theorem bJ1 (b : Nat) : bJ 1 b = true ↔ b = 0 := by
  unfold bJ
  by_cases h : b < 64
  · have : ∀ b ∈ List.range 64, ((1 : Int64).toBitVec.getLsbD b = true ↔ b = 0) := by decide +kernel
    exact this b (List.mem_range.mpr h)
  · rw [BitVec.getLsbD_of_ge _ _ (by omega)]
    constructor
    · intro h; exact absurd h (by decide)
    · intro h; omega
theorem nnA (hm : mkd psA [1]) : nn psA [1] = 1 := by
  have hnu := hm.2.2.2.2.2.2.2.2.1
  have hh : (LL2 psA [1]).head? = some 0 := hnu.2.2
  show (LL2 psA [1]).length = 1
  have hmem : ∀ x ∈ LL2 psA [1], x = 0 := fun x hx => by
    have := (hnu.2.1 x hx).1
    have h1 : ([1] : List Int32).length = 1 := rfl
    omega
  have hnd : (LL2 psA [1]).Nodup := hnu.1
  cases hL : LL2 psA [1] with
  | nil => rw [hL] at hh; exact absurd hh (by simp)
  | cons a t =>
    cases t with
    | nil => rfl
    | cons b t =>
      exfalso
      rw [hL] at hmem hnd
      have h1 := hmem a (by simp)
      have h2 := hmem b (by simp)
      rw [List.nodup_cons] at hnd
      exact hnd.1 (by rw [h1, h2]; simp)
theorem TTA (hm : mkd psA [1]) : ∀ a, a < 16 → TT psA [1] 0 a = some 0 := by
  intro a ha
  have h1 := stQ_one hm rfl
  have := (TT_step (x := 1) hm h1.1 (a := a) (by rw [offsA 16 (by omega)]; exact ha)).2 (by rw [trA1 a ha]; decide)
  rw [trA1 a ha, h1.2] at this
  exact this.1
/-- what the program's first policy holds -/
def pol0 (s : yS) (p : Nat) : Prop := sI s p 0 = 0 ∧ sI s p 1 = 1 ∧ sI s p 2 = 1 ∧ sI s p 3 = 1 ∧ sI s p 6 = 0 ∧ (∀ i, i < 144 → sI s (p + 11) i = if i % 9 < i / 9 % 4 then Int32.ofInt (-2147483648) else 0) ∧ (∀ i, i ≤ 144 → sI s (p + 12) i = nI i) ∧ (∀ i, i ≤ 16 → sI s (p + 13) i = nI i) ∧ (∀ i, i < 16 → sI s (p + 14) i = 0) ∧ (∀ c, c < 16 → sJ s (p + 15) (c * 63) = 1) ∧ ∀ c, c < 16 → sJ s (p + 16) c = 1
theorem pol0.pl {s : yS} {p : Nat} (h : pol0 s p) (hm : mkd psA [1]) : plC s p psA [1] := by
  obtain ⟨h0, h1, h2, h3, h6, h11, h12, h13, h14, h15, h16⟩ := h
  have o16 := offsA 16 (by omega)
  have n1 := nnA hm
  refine ⟨⟨by omega, ⟨fun c hc => by rw [offsA c hc]; exact h13 c hc, fun c k hk hc => ?_⟩, by rw [rbA 16 (by omega)]; exact h12 144 (by omega)⟩, h2, ⟨by omega, by omega, by omega, by rw [n1]; exact h3, fun q a hq ha => ?_⟩, fun c hc q hq => ?_⟩
  · have hc16 : c < 16 := by omega
    obtain ⟨r1, r2⟩ := rowA c k hc16 hk
    rw [rbA c (by omega), r1, r2]
    refine ⟨by rw [show c * 9 + k = 9 * c + k by omega]; exact h12 _ (by omega), fun i hi => ?_⟩
    have hi : i < 1 := hi
    obtain rfl : i = 0 := by omega
    have e11 := h11 (9 * c + k) (by omega)
    rw [show (9 * c + k) % 9 = k by omega, show (9 * c + k) / 9 = c by omega] at e11
    refine Eq.trans e11 ?_
    show _ = Int32.ofInt (if k < c % 4 then -2147483648 else 0)
    by_cases ck : k < c % 4
    · rw [if_pos ck, if_pos ck]
    · rw [if_neg ck, if_neg ck]; rfl
  · rw [n1] at hq
    rw [o16] at ha
    obtain rfl : q = 0 := by omega
    rw [TTA hm a ha, Nat.zero_mul, Nat.zero_add]
    exact ⟨h14 a ha, fun t ht => by rw [n1]; have := Option.some.inj ht; omega⟩
  · rw [n1] at hq
    obtain rfl : q = 0 := by omega
    rw [offsA c (by omega), offsA (c + 1) (by omega)]
    have e15 : sJ s (p + 15) (c * 63 + 0) = 1 := h15 c hc
    have e16 : sJ s (p + 16) c = 1 := h16 c hc
    refine ⟨?_, ?_⟩
    · intro t
      rw [e15, bJ1]
      constructor
      · intro h; subst h; exact ⟨c, Nat.le_refl _, by omega, TTA hm c hc⟩
      · rintro ⟨b, b1, b2, b3⟩
        rw [TTA hm b (by omega)] at b3
        exact (Option.some.inj b3).symm
    · rw [e16, bJ1]
      constructor
      · intro _ b b1 b2; exact TTA hm b (by omega)
      · intro _; rfl
/-- what all cells hold when both objects are made, and the reference has its first text -/
def I0 (s : yS) : Prop := iA s 3 20 37 55 73 ∧ wdC s ∧ keyI s ∧ poI s 3 ∧ poI s 20 ∧ pol0 s 3 ∧ sI s 0 2 = 0 ∧ sI s 0 3 = 0 ∧ sI s 0 4 = 0 ∧ sI s 0 5 = -1 ∧ sI s 0 11 = 0 ∧ sI s 0 12 = 0 ∧ sI s 124 0 = -1 ∧ sI s 123 2 = 0 ∧ sI s 136 0 = 0 ∧ (∀ k, k < 6 → sI s 137 k = 0)
  ∧ sI s 139 5 = 0 ∧ sI s 139 9 = 0 ∧ sI s 139 88 = 0 ∧ sI s 177 0 = 0 ∧ sI s 178 0 = 0 ∧ sI s 178 1 = 0
theorem init_ok {s : yS} {Q : Int32 → yS → Prop} (h : I0 s) (hy : byM s B1 19) (H : ∀ r s', Iv (wI s' 139 2 0) → Q r s') : W_X12_loadPolicy s Q := by
  obtain ⟨hA, hw, hk, hp3, hp20, hpol, c2, c3, c4, c5, c11, c12, c124, c123, c136, c137, m5, m9, m88, m177, m178, m1781⟩ := h
  refine k_loadPolicy1 (T := fun _ => 0) (n := 0) hy ⟨by omega, m9, fun k hk => absurd hk (Nat.not_lt_zero _), fun _ => by show 0 < 256; omega⟩ polA (fun ps S hpol2 hm hN s' F tx pl k0 k1 f6 f7 h1 h89 w99 w206 => ?_)
  rw [polA] at hpol2
  obtain ⟨rfl, rfl⟩ := Prod.mk.inj (Except.ok.inj hpol2)
  refine H 0 s' ?_
  have CI : ∀ a i, a < 139 → sI (wI s' 139 2 0) a i = sI s a i := fun a i ha => by rw [sI_w, if_neg (by omega)]; exact F.1 _ _ (by unfold dLq dLp; omega)
  have CJ : ∀ a i, a < 139 → sJ (wI s' 139 2 0) a i = sJ s a i := fun a i ha => F.2.1 _ _ (by unfold dLq dLp; omega)
  have MI : ∀ a i, ¬ (a = 139 ∧ i = 2) → sI (wI s' 139 2 0) a i = sI s' a i := fun a i h => by rw [sI_w, if_neg h]
  have h1Q := stQ_one hm rfl
  have pl0 := hpol.pl hm
  refine ⟨3, 20, 37, 55, 73, fun _ => 0, 0, [], B1, 19, psA, [1], 1, [], [], fun _ => 0, 0, hA.fr (fun i _ _ => F.2.2 _ _), ⟨fun w hw' => (CJ _ _ (by omega)).trans (hw w hw'), fun k hk' => (CI _ _ (by omega)).trans (hk k hk'), ⟨(CI _ _ (by omega)).trans hp3.1, (CI _ _ (by omega)).trans hp3.2⟩, (CI _ _ (by omega)).trans hp20.1, (CI _ _ (by omega)).trans hp20.2⟩, ?_, ?_, ?_, ?_, ?_, ?_, ?_, ?_, ?_⟩
  · exact ⟨⟨⟨by omega, fun k hk => absurd hk (Nat.not_lt_zero _), fun _ => by show 0 < 256; omega⟩, (CI _ _ (by omega)).trans c2⟩, by omega, by rw [sI_w, if_pos ⟨rfl, rfl⟩]; rfl, fun k hk => absurd hk (Nat.not_lt_zero _), fun _ => by show 0 < 256; omega⟩
  · exact ⟨fun j hj => absurd hj (Nat.not_lt_zero _), (CI _ _ (by omega)).trans c3, ⟨by rw [MI _ _ (by omega), F.1 _ _ (by unfold dLq dLp; omega)]; exact m5, fun j hj => absurd hj (Nat.not_lt_zero _)⟩, Nat.zero_le _, fun b hb => by simp at hb⟩
  · exact ⟨by rw [MI _ _ (by omega), f6, CI _ _ (by omega)]; exact c4.symm, by rw [MI _ _ (by omega), f7, CI _ _ (by omega)]; exact c5.symm⟩
  · refine ⟨tx.fr (MI _ _ (by omega)) (fun i => MI _ _ (by omega)), polA, hm, pl.fr (fun a i ha => MI _ _ (by omega)) (fun a i _ => rfl), pl0.fr (fun a i ha => CI _ _ (by omega)) (fun a i ha => CJ _ _ (by omega)), Or.inr ⟨(CI _ _ (by omega)).trans hpol.1, rfl⟩, fun c hc => ?_, (CI _ _ (by omega)).trans hpol.1, (CI _ _ (by omega)).trans hpol.2.1⟩
    rw [CI _ _ (by omega), hpol.2.2.2.2.1]
    constructor
    · intro h
      unfold bt at h
      have : ∀ c ∈ List.range 16, ¬ (0 : Int32).toBitVec.getLsbD c = true := by decide
      exact absurd h (this c (List.mem_range.mpr hc))
    · rintro ⟨r, hr, _⟩
      have hr : r ∈ ([] : List Rl) := hr
      simp at hr
  · exact ⟨by rw [CI _ _ (by omega), c136, h1Q.2]; rfl, by rw [MI _ _ (by omega)]; exact w99, h1Q.1, fun k hk => by rw [MI _ _ (by omega), w206 k hk, CI _ _ (by omega)]; exact (c137 k hk).symm, fun k hk => absurd hk (Nat.not_lt_zero _)⟩
  · exact Or.inl ⟨(CI _ _ (by omega)).trans c11, by rw [MI _ _ (by omega), F.1 _ _ (by unfold dLq dLp; omega)]; exact m177, 0, by omega, by rw [MI _ _ (by omega), F.1 _ _ (by unfold dLq dLp; omega)]; exact m178⟩
  · exact Or.inl ⟨(CI _ _ (by omega)).trans c12, by rw [MI _ _ (by omega)]; exact h1, 0, by omega, by rw [MI _ _ (by omega), F.1 _ _ (by unfold dLq dLp; omega)]; exact m1781⟩
  · exact Or.inl ⟨(CI _ _ (by omega)).trans c124, by rw [MI _ _ (by omega)]; exact h89⟩
  · exact ⟨⟨(CI _ _ (by omega)).trans c123, by omega, fun i hi => absurd hi (Nat.not_lt_zero _)⟩, by rw [MI _ _ (by omega), F.1 _ _ (by unfold dLq dLp; omega)]; exact m88, by omega, fun i hi => absurd hi (Nat.not_lt_zero _)⟩

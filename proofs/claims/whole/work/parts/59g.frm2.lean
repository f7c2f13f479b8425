section
variable {s : yS} {l : List Fn} {ps : PS} {S : List Int32} {f i : Nat}
noncomputable def frg (ps : PS) (S : List Int32) (l : List Fn) : List Fn := mixP (ndB ps S l) l.length l
noncomputable def gds (ps : PS) (S : List Int32) (l : List Fn) : Nat := gsum (ndB ps S l) l l.length
theorem frg_ok (hok : pgOK l) (hfit : fitB ps S l) : pgOK (frg ps S l) := mix_ok hok (fun f hf i _ h => ndB_26 hf h) (fun f hf _ => hfit.1 f hf) (Nat.le_refl _) hfit.2
theorem frg_ver (hok : pgOK l) (hva : vAll l = none) (hfit : fitB ps S l) : vAll (frg ps S l) = none := by
  apply vAll_none
  intro j hj
  have hj' : j < l.length := by unfold frg at hj; rw [mix_len] at hj; exact hj
  obtain ⟨V, hV⟩ := mix_ver (k := l.length) hok hva (fun f hf i _ h => ndB_26 (ps := ps) (S := S) hf h) hj' (fun _ => hfit.1 j hj')
  exact (vTy_of hj hV).2
theorem gsum_mono {nd : Nat → Nat → Bool} {k m : Nat} (h : k ≤ m) : gsum nd l k ≤ gsum nd l m := by
  induction m with
  | zero => rw [show k = 0 by omega]; exact Nat.le_refl _
  | succ m ih =>
    by_cases c : k = m + 1
    · subst c; exact Nat.le_refl _
    · have := ih (by omega)
      rw [gsum]; omega
def dFt (a i : Nat) : Prop := (a = 139 ∧ (i = 0 ∨ i = 15 ∨ i = 114 ∨ i = 115)) ∨ dMm 0 a i ∨ dCp 1 a i ∨ a = 195 ∨ a = 203 ∨ (a = 200 ∧ i = 1)
def dFt0 (a i : Nat) : Prop := (a = 139 ∧ i = 0) ∨ dMm 0 a i
/-- what is known of slot 0's sets -/
def mkM (s : yS) (q : Nat) (l : List Fn) (ps : PS) (S : List Int32) : Prop := (sI s 200) q = 0 ∨ (sI s 200) q = 1 ∧ myM s q l (RJs ps S) (nn ps S)
set_option maxHeartbeats 2000000 in
theorem k_forgeIt {Q : Int32 → yS → Prop} (hb : (sI s 177) 0 = 0 ∨ (sI s 177) 0 = 1 ∧ pgM s 0 l ∧ pgOK l ∧ vAll l = none ∧ mkM s 0 l ps S) (hm : mkd ps S) (hpl : plM s ps S)
    (Hn : (sI s 177) 0 = 0 → ∀ s', frM dFt0 s s' → (sI s' 200) 0 = (sI s 200) 0 → (∀ i, sJ s' 196 i = sJ s 196 i) → Q (-1) s')
    (Hg : (sI s 177) 0 = 1 → hsG l → ∀ s', frM dFt0 s s' → mkM s' 0 l ps S → Q (-1) s')
    (H2 : (sI s 177) 0 = 1 → ¬ hsG l → ¬ fitB ps S l → ∀ s', frM dFt0 s s' → mkM s' 0 l ps S → Q (-2) s')
    (H1 : (sI s 177) 0 = 1 → ¬ hsG l → fitB ps S l → ∀ s', frM dFt s s' → mkM s' 0 l ps S → (sI s' 177) 1 = 1 → (sI s' 200) 1 = 0 → pgM s' 1 (frg ps S l) → tpM s' 1 (frg ps S l) → Q (nI (gds ps S l)) s') : W_X12_forgeIt s Q := by
  unfold W_X12_forgeIt
  rw [show ix 0 = 0 from rfl, show ix 1 = 1 from rfl]
  intro s1 e1
  have F1 : frM dFt0 s s1 := by subst e1; exact frM.rfl'.wI (by unfold dFt0; omega)
  have i03 : vp_in 0 3 := nI_inU (a := 0) (by omega) (by omega)
  refine ⟨i03, ?_⟩
  have h177 : sI s1 177 0 = sI s 177 0 := by subst e1; rw [sI_w, if_neg (by omega)]
  rw [h177]
  rcases hb with hb | ⟨hb, hp, hok, hva, hmk⟩
  · rw [hb]
    refine ⟨fun hz => absurd rfl hz, fun _ => Hn hb s1 F1 ?_ ?_⟩
    · subst e1; rw [sI_w, if_neg (by omega)]
    · intro i; subst e1; rfl
  rw [hb]
  refine ⟨fun _ => ?_, fun hz => absurd hz (by decide)⟩
  have h12 := hok.2.1
  have hp1 : pgM s1 0 l := hp.fr (fun a i ha => F1.1 a i (by unfold dFt0 dMm dFr; omega))
  have hpl1 : plM s1 ps S := hpl.fr (fun a i ha => F1.1 a i (by unfold dFt0 dMm dFr; omega)) (fun a i ha => F1.2.1 a i (by unfold dFt0 dMm dFr; omega))
  have hmk1 : mkM s1 0 l ps S := by
    subst e1
    rcases hmk with h | ⟨h, h2⟩
    · exact Or.inl (by rw [sI_w, if_neg (by omega)]; exact h)
    · exact Or.inr ⟨by rw [sI_w, if_neg (by omega)]; exact h, h2⟩
  clear e1
  -- with the sets
  suffices main : ∀ s3 : yS, frM dFt0 s s3 → pgM s3 0 l → plM s3 ps S → (sI s3 200) 0 = 1 → myM s3 0 l (RJs ps S) (nn ps S) → ∀ P23 : Int32 → Prop, (∀ (x4 : Int32), (vp_in 0 3 ∧ 
   (((sI s3 178 0) ≤ x4 → W_X12_sizeOf s3 0 
    (fun r6 => ∀ P104 : Int32 → Int32 → Prop, (∀ (x7 : Int32) (x8 : Int32), (vp_in 0 3 ∧ 
     (((sI s3 178 0) ≤ x8 → ((x7 ≤ (nI 8192) → W_X12_copyProgram s3 0 1 
       (fun s10 => vp_in 1 2 ∧ ∀ s12 : yS, s12 = wI s10 200 1 (vp_nar .boolean 0) → 
       ∀ s13 : yS, s13 = wI s12 139 15 0 → 
       ∀ P216 : Int32 → Int32 → yS → Prop, (∀ (x14 : Int32) (x15 : Int32) (s16 : yS), (vp_in 0 3 ∧ 
        (((sI s16 178 0) ≤ x15 → Q x14 s16)
        ∧ (¬ (sI s16 178 0) ≤ x15 → W_X12_forge s16 x15 
         (fun r18 s19 => ∀ x20 : Int32, x20 = (x14 + r18) → 
         W_X12_verify s19 1 x15 
         (fun s21 => ∀ x22 : Int32, x22 = (x15 + 1) → 
         P216 x20 x22 s21))))) → P216 x14 x15 s16) → 
       P216 0 0 s13))
      ∧ (¬ x7 ≤ (nI 8192) → Q (-2) s3)))
     ∧ (¬ (sI s3 178 0) ≤ x8 → ∀ P119 : Int32 → Int32 → Prop, (∀ (x23 : Int32) (x24 : Int32), (vp_in x8 36 ∧ 
       (((sI s3 184 (ix x8)) ≤ x24 → ∀ x26 : Int32, x26 = (x7 + ((nI 2) * x23)) → 
        vp_in x8 36 ∧ 
        ((((sI s3 184 (ix x8)) + x23) ≤ (nI 400) → ∀ x28 : Int32, x28 = (x8 + 1) → 
         P104 x26 x28)
        ∧ (¬ ((sI s3 184 (ix x8)) + x23) ≤ (nI 400) → Q (-2) s3)))
       ∧ (¬ (sI s3 184 (ix x8)) ≤ x24 → W_X12_needs s3 0 x8 x24 
        (fun r29 => ∀ P147 : Int32 → Prop, (∀ (y30 : Int32), (∀ x31 : Int32, x31 = (x23 + y30) → 
         ∀ x32 : Int32, x32 = (x24 + 1) → 
         P119 x31 x32) → P147 y30) → 
        ((r29 = 0 → P147 0)
        ∧ (¬ r29 = 0 → P147 1)))))) → P119 x23 x24) → 
      P119 0 0))) → P104 x7 x8) → 
    P104 r6 0))
   ∧ (¬ (sI s3 178 0) ≤ x4 → ∀ P37 : Int32 → Int32 → Prop, (∀ (x33 : Int32) (x34 : Int32), (vp_in x4 36 ∧ 
     (((sI s3 184 (ix x4)) ≤ x34 → ∀ x36 : Int32, x36 = (x4 + 1) → 
      P23 x36)
     ∧ (¬ (sI s3 184 (ix x4)) ≤ x34 → W_X12_needs s3 0 x4 x34 
      (fun r37 => ∀ P63 : Int32 → Prop, (∀ (y38 : Int32), (∀ x39 : Int32, x39 = (x33 + y38) → 
       vp_in (((nI 400) * x4) + x34) 14400 ∧ 
       ((¬ (sI s3 186 (ix (((nI 400) * x4) + x34))) = (nI 29) → ∀ x41 : Int32, x41 = (x34 + 1) → 
        P37 x39 x41)
       ∧ ((sI s3 186 (ix (((nI 400) * x4) + x34))) = (nI 29) → Q (-1) s3))) → P63 y38) → 
      ((r37 = 0 → P63 0)
      ∧ (¬ r37 = 0 → P63 1)))))) → P37 x33 x34) → 
    P37 0 0))) → P23 x4) → 
  P23 0 by
    refine k_makeMay (q := 0) (by omega) hok hva hp1 hpl1.po (fun hne => ?_) (fun h0 s3 F3 k3 y3 => ?_)
    · rcases hmk1 with h | ⟨h, h2⟩
      · exact absurd h hne
      · exact main s1 F1 hp1 hpl1 h h2
    · exact main s3 (F1.trans (F3.mono (fun a i h => Or.inr h))) (hp1.fr (fun a i ha => F3.1 a i (by unfold dMm dFr; omega))) (hpl1.fr (fun a i ha => F3.1 a i (by unfold dMm dFr; omega)) (fun a i ha => F3.2.1 a i (by unfold dMm dFr; omega))) k3 y3
  intro s3 F3 p3 pl3 k3 y3 P23 hP23
  have mk3 : mkM s3 0 l ps S := Or.inr ⟨k3, y3⟩
  have szt : ∀ f, (hf : f < l.length) → sI s3 184 f = nI (fC l[f]).length := fun f hf => by
    have := (p3.2 f hf).2.2.2.2.1
    rw [show 12 * 0 + f = f by omega] at this; exact this
  have cot : ∀ f, (hf : f < l.length) → ∀ i, i < (fC l[f]).length → sI s3 186 (400 * f + i) = nI (opA l[f] i) := fun f hf i hi => by
    have := (p3.2 f hf).2.2.2.2.2.2.1 i hi
    rw [show 4800 * 0 + 400 * f + i = 400 * f + i by omega, ← opA_at hi] at this; exact this.1
  have nee : ∀ {f i : Nat} {Q : Int32 → Prop} (hf : f < l.length), i < (fC l[f]).length → Q (bI (ndB ps S l f i)) → W_X12_needs s3 0 (nI f) (nI i) Q := fun {f i Q} hf hi hQ =>
    k_needs (q := 0) (by omega) hok hm p3 pl3 y3 hf hi (fun r hr => by rw [ndB_of hr]; exact hQ)
  rw [p3.1] at hP23
  -- no guards: the forging
  have go : ¬ hsG l → P23 (nI l.length) := by
    intro hng
    apply hP23
    refine ⟨i03, fun _ => ?_, fun hz => absurd ((nI_leU (by omega) (by omega)).mpr (Nat.le_refl _)) hz⟩
    refine k_sizeOf (q := 0) (by omega) p3 hok.wk ?_
    intro P104 hP104
    suffices hL : ∀ (r f : Nat), f + r = l.length → (∀ k, (hk : k < l.length) → k < f → mv (ndB ps S l k) (fC l[k]).length ≤ 400) → P104 (nI (4 + sumF l + 2 * gsum (ndB ps S l) l f)) (nI f) by
      have h0 := hL l.length 0 (Nat.zero_add _) (fun k hk h0 => by omega)
      rw [show 4 + sumF l + 2 * gsum (ndB ps S l) l 0 = 4 + sumF l from rfl] at h0
      exact h0
    have hsf : 4 + sumF l ≤ 8192 := hok.2.2.2
    intro r
    induction r with
    | zero =>
      intro f hf hfit
      obtain rfl : f = l.length := by omega
      have hgs : ∀ k, k ≤ l.length → gsum (ndB ps S l) l k ≤ 400 * k := by
        intro k
        induction k with
        | zero => intro _; exact Nat.le_refl _
        | succ k ihk =>
          intro hk
          rw [gsum, if_pos (by omega), getD_at (by omega)]
          have h1 := gcn_le (nd := ndB ps S l k) (i := (fC (l[k]'(by omega))).length)
          have h2 := (hok.2.2.1 k (by omega)).2.2.2.2.2.2.2.2.1
          have := ihk (by omega)
          omega
      have hg4 := hgs l.length (Nat.le_refl _)
      apply hP104
      refine ⟨i03, fun _ => ?_, fun hz => absurd ((nI_leU (by omega) (by omega)).mpr (Nat.le_refl _)) hz⟩
      rw [nI_leU (by omega) (by omega)]
      refine ⟨fun hle => ?_, fun hgt => H2 hb hng (fun hh => hgt (by have := hh.2; omega)) s3 F3 mk3⟩
      have hfb : fitB ps S l := ⟨fun k hk => hfit k hk hk, by omega⟩
      refine k_copyProgram (p := 1) (q := 0) (by omega) (by omega) (by omega) (fun s10 F10 h10 f10 d10 c10 a10 => ?_)
      refine ⟨nI_inU (a := 1) (by omega) (by omega), ?_⟩
      intro s12 e12 s13 e13
      have n13 : ∀ a i, ¬ (a = 200 ∧ i = 1) → ¬ (a = 139 ∧ i = 15) → sI s13 a i = sI s10 a i := fun a i h1 h2 => by subst e13; rw [sI_w, if_neg (by omega)]; subst e12; rw [sI_w, if_neg (by omega)]
      have J13 : ∀ a i, sJ s13 a i = sJ s10 a i := fun a i => by subst e13; subst e12; rfl
      have R13 : ∀ a i, sR s13 a i = sR s10 a i := fun a i => by subst e13; subst e12; rfl
      have k13 : sI s13 200 1 = 0 := by subst e13; rw [sI_w, if_neg (by omega)]; subst e12; rw [sI_w, if_pos ⟨rfl, rfl⟩]; rfl
      have b13 : sI s13 139 15 = 0 := by subst e13; rw [sI_w, if_pos ⟨rfl, rfl⟩]
      clear e13 e12
      have F13 : frM dFt s s13 := by
        have q1 : frM dFt s s3 := F3.mono (fun a i h => by rcases h with h | h; exact Or.inl (by omega); exact Or.inr (Or.inl h))
        have q2 : frM dFt s3 s10 := F10.mono (fun a i h => Or.inr (Or.inr (Or.inl h)))
        have q3 : frM dFt s10 s13 := ⟨fun a i h => n13 a i (fun hh => h (by unfold dFt; omega)) (fun hh => h (by unfold dFt; omega)), fun a i _ => J13 a i, R13⟩
        exact (q1.trans q2).trans q3
      have p10 : pgM s10 1 l := p3.copy hok f10 d10 c10 a10
      have p13 : pgM s13 1 l := p10.fr (fun a i ha => n13 a i (by omega) (by omega))
      have sr13 : srM s13 l ps S := by
        refine ⟨?_, ?_, ?_⟩
        · have : pgM s10 0 l := p3.fr0 hok (fun a i ha => F10.1 a i (by unfold dCp; omega))
          exact this.fr (fun a i ha => n13 a i (by omega) (by omega))
        · have : plM s10 ps S := pl3.fr (fun a i ha => F10.1 a i (by unfold dCp; omega)) (fun a i ha => F10.2.1 a i (by unfold dCp; omega))
          exact this.fr (fun a i ha => n13 a i (by omega) (by omega)) (fun a i ha => J13 a i)
        · intro f hf i hi b
          rw [J13, F10.2.1 _ _ (by unfold dCp; omega)]; exact y3 f hf i hi b
      have hs13 : sI s13 177 1 = 1 := (n13 _ _ (by omega) (by omega)).trans h10
      have km13 : sI s13 200 0 = 1 := by rw [n13 _ _ (by omega) (by omega), F10.1 _ _ (by unfold dCp; omega)]; exact k3
      intro P216 hP216
      generalize hnd : ndB ps S l = nd at *
      have hnd26 : ∀ f, (hf : f < l.length) → ∀ i, i < (fC l[f]).length → nd f i = true → opA l[f] i = 26 := fun f hf i _ h => by rw [← hnd] at h; exact ndB_26 hf h
      have hfit4 : ∀ k, (hk : k < l.length) → mv (nd k) (fC l[k]).length ≤ 400 := fun k hk => hfit k hk hk
      suffices hR : ∀ (r f : Nat) (t : yS), f + r = l.length → frM dFt s t → srM t l ps S → sI t 177 1 = 1 → sI t 200 0 = 1 → sI t 200 1 = 0 → sI t 139 15 = 0 → pgM t 1 (mixP nd f l) → (∀ k, k < f → ∀ i, i < 400 → (sI t 193) (4800 * 1 + 400 * k + i) = dI (vTy (frg ps S l) k i) ∧ (sI t 194) (4800 * 1 + 400 * k + i) = tI (vTy (frg ps S l) k i)) → P216 (nI (gsum nd l f)) (nI f) t by
        refine hR l.length 0 s13 (Nat.zero_add _) F13 sr13 hs13 km13 k13 b13 ?_ (fun k hk => by omega)
        have : mixP nd 0 l = l := by
          apply List.ext_getElem
          · rw [mix_len]
          · intro i h1 h2; rw [mix_at h2, if_neg (by omega)]
        rw [this]; exact p13
      have hfrg : frg ps S l = mixP nd l.length l := by unfold frg; rw [hnd]
      intro r
      induction r with
      | zero =>
        intro f t hf Ft sr h1 h2 h3 h4 pt tt
        obtain rfl : f = l.length := by omega
        apply hP216
        rw [sr.1.1]
        refine ⟨i03, fun _ => ?_, fun hz => absurd ((nI_leU (by omega) (by omega)).mpr (Nat.le_refl _)) hz⟩
        have : gds ps S l = gsum nd l l.length := by unfold gds; rw [hnd]
        rw [← this]
        refine H1 hb hng hfb t Ft (Or.inr ⟨h2, sr.2.2⟩) h1 h3 (by rw [hfrg]; exact pt) (fun k hk i hi => tt k ?_ i hi)
        rw [hfrg, mix_len] at hk; exact hk
      | succ r ih =>
        intro f t hf Ft sr h1 h2 h3 h4 pt tt
        have hfl : f < l.length := by omega
        have h400 := (hok.2.2.1 f hfl).2.2.2.2.2.2.2.2.1
        apply hP216
        rw [sr.1.1]
        refine ⟨i03, fun hz => absurd ((nI_leU (by omega) (by omega)).mp hz) (by omega), fun _ => ?_⟩
        have pf := pt.2 f (by rw [mix_len]; exact hfl)
        rw [mix_at hfl, if_neg (by omega)] at pf
        refine k_forge hok hm sr hfl (by rw [hnd]) (hfit4 f hfl) pf (fun s19 F19 f19 => ?_)
        intro x20 e20
        rw [nI_addU] at e20
        have hgs : gsum nd l f + gcn (nd f) (fC l[f]).length = gsum nd l (f + 1) := by rw [gsum, if_pos hfl, getD_at hfl]
        rw [hgs] at e20
        subst e20
        have ft : ∀ {u v : yS}, frM (dFm f) u v → frM dFt u v := fun h => h.mono (fun a i h => by
          unfold dFm at h
          rcases h with h | h | h | h
          · exact Or.inr (Or.inr (Or.inr (Or.inr (Or.inl h))))
          · exact Or.inr (Or.inr (Or.inl (by unfold dCp; omega)))
          · exact Or.inr (Or.inr (Or.inl (by unfold dCp; omega)))
          · exact Or.inr (Or.inr (Or.inl (by unfold dCp; omega))))
        have sr19 := sr.fr hok F19
        have p19 : pgM s19 1 (mixP nd (f + 1) l) := by
          refine ⟨?_, fun k hk => ?_⟩
          · have := pt.1
            rw [mix_len] at this ⊢
            exact (F19.1 _ _ (by unfold dFm; omega)).trans this
          · have hk' : k < l.length := by rw [mix_len] at hk; exact hk
            rw [mix_at hk']
            by_cases c : k = f
            · subst c; rw [if_pos (by omega)]; exact f19
            · have pk := pt.2 k (by rw [mix_len]; exact hk')
              rw [mix_at hk'] at pk
              have e : (if k < f + 1 then frF (nd k) l[k] else l[k]) = (if k < f then frF (nd k) l[k] else l[k]) := by
                by_cases c2 : k < f
                · rw [if_pos c2, if_pos (by omega)]
                · rw [if_neg c2, if_neg (by omega)]
              rw [e]
              have hc4 : (fC (if k < f then frF (nd k) l[k] else l[k])).length ≤ 400 := by
                split
                · rw [frF_len]; exact hfit4 k hk'
                · exact (hok.2.2.1 k hk').2.2.2.2.2.2.2.2.1
              have hc6 : (fH (if k < f then frF (nd k) l[k] else l[k])).length ≤ 6 := by
                split
                · show ((fH l[k]).map (hnN (nd k))).length ≤ 6
                  rw [List.length_map]; exact (hok.2.2.1 k hk').2.2.2.2.2.2.2.2.2.1
                · exact (hok.2.2.1 k hk').2.2.2.2.2.2.2.2.2.1
              exact pk.fr (fun a ha => F19.1 _ _ (by unfold dFm; omega)) (fun a i ha hi => F19.1 _ _ (by unfold dFm; omega)) (fun a i ha hb hi => F19.1 _ _ (by unfold dFm; omega))
        have okm : pgOK (mixP nd (f + 1) l) := by
          refine mix_ok hok hnd26 (fun k hk _ => hfit4 k hk) (by omega) ?_
          have := gsum_mono (nd := nd) (l := l) (k := f + 1) (m := l.length) (by omega)
          omega
        have hfm : f < (mixP nd (f + 1) l).length := by rw [mix_len]; exact hfl
        have b19 : sI s19 139 15 = 0 := (F19.1 _ _ (by unfold dFm; omega)).trans h4
        obtain ⟨V, hV⟩ := mix_ver (k := f + 1) hok hva hnd26 hfl (fun _ => hfit4 f hfl)
        refine k_verify (q := 1) (by omega) p19 okm hfm b19 (fun V' hV' s21 F21 v21 => ?_) (fun e he s21 F21 b21 => ?_)
        · intro x22 e22
          subst e22; rw [nI_s]
          have F21' : frM dFt s s21 := (Ft.trans (ft F19)).trans (F21.mono (fun a i h => by
            unfold dVm dVc at h
            rcases h with h | h | h
            · exact Or.inl (by omega)
            · exact Or.inr (Or.inr (Or.inr (Or.inl h)))
            · exact Or.inr (Or.inr (Or.inl (by unfold dCp; omega)))))
          have hvt : vTy (frg ps S l) f = V'.1 := by
            have hff : f < (frg ps S l).length := by rw [hfrg, mix_len]; exact hfl
            have hhd : hdE (mixP nd (f + 1) l) (frg ps S l) := by rw [hfrg]; exact mix_hd.symm.trans mix_hd
            have hel : (frg ps S l)[f] = (mixP nd (f + 1) l)[f] := by
              simp only [hfrg]
              rw [mix_at hfl, mix_at hfl, if_pos hfl, if_pos (by omega)]
            refine (vTy_of hff ?_).1
            rw [hel, ← vFun_cong hhd]; exact hV'
          refine ih (f + 1) s21 (by omega) F21' ⟨?_, ?_, ?_⟩ ?_ ?_ ?_ ?_ ?_ (fun k hk i hi => ?_)
          · exact sr19.1.fr0 hok (fun a i ha => F21.1 _ _ (by unfold dVm dVc; omega))
          · exact sr19.2.1.fr (fun a i ha => F21.1 _ _ (by unfold dVm dVc; omega)) (fun a i ha => F21.2.1 _ _ (by unfold dVm dVc; omega))
          · intro f hf i hi b; rw [F21.2.1 _ _ (by unfold dVm dVc; omega)]; exact sr19.2.2 f hf i hi b
          · rw [F21.1 _ _ (by unfold dVm dVc; omega), F19.1 _ _ (by unfold dFm; omega)]; exact h1
          · rw [F21.1 _ _ (by unfold dVm dVc; omega), F19.1 _ _ (by unfold dFm; omega)]; exact h2
          · rw [F21.1 _ _ (by unfold dVm dVc; omega), F19.1 _ _ (by unfold dFm; omega)]; exact h3
          · rw [F21.1 _ _ (by unfold dVm dVc; omega)]; exact b19
          · exact p19.fr (fun a i ha => F21.1 _ _ (by unfold dVm dVc; omega))
          · by_cases c : k = f
            · subst c; rw [hvt]; exact v21 i hi
            · rw [F21.1 _ _ (by unfold dVm dVc; omega), F21.1 _ _ (by unfold dVm dVc; omega), F19.1 _ _ (by unfold dFm; omega), F19.1 _ _ (by unfold dFm; omega)]
              exact tt k (by omega) i hi
        · exfalso
          rw [hV] at he
          exact ok_er he
    | succ r ih =>
      intro f hf hfit
      have hfl : f < l.length := by omega
      have h400 := (hok.2.2.1 f hfl).2.2.2.2.2.2.2.2.1
      have inf : vp_in (nI f) 36 := nI_inU (by omega) (by omega)
      apply hP104
      refine ⟨i03, fun hz => absurd ((nI_leU (by omega) (by omega)).mp hz) (by omega), fun _ => ?_⟩
      intro P119 hP119
      rw [nI_ix (n := f) (by omega), szt f hfl] at hP119
      suffices hI : ∀ (r i : Nat), i + r = (fC l[f]).length → P119 (nI (gcn (ndB ps S l f) i)) (nI i) from hI _ 0 (Nat.zero_add _)
      intro r2
      induction r2 with
      | zero =>
        intro i hi
        obtain rfl : i = (fC l[f]).length := by omega
        have hgl := gcn_le (nd := ndB ps S l f) (i := (fC l[f]).length)
        apply hP119
        refine ⟨inf, fun _ => ?_, fun hz => absurd ((nI_leU (by omega) (by omega)).mpr (Nat.le_refl _)) hz⟩
        rw [nI_mul, nI_addU]
        intro x26 e26
        subst e26
        rw [nI_addU, nI_leU (by omega) (by omega)]
        refine ⟨inf, fun hle => ?_, fun hgt => H2 hb hng (fun hh => hgt ?_) s3 F3 mk3⟩
        · intro x28 e28
          subst e28; rw [nI_s]
          have hgs : 4 + sumF l + 2 * gsum (ndB ps S l) l f + 2 * gcn (ndB ps S l f) (fC l[f]).length = 4 + sumF l + 2 * gsum (ndB ps S l) l (f + 1) := by rw [gsum, if_pos hfl, getD_at hfl]; omega
          rw [hgs]
          refine ih (f + 1) (by omega) (fun k hk hkf => ?_)
          by_cases c : k = f
          · subst c; exact hle
          · exact hfit k hk (by omega)
        · exact hh.1 f hfl
      | succ r2 ih2 =>
        intro i hi
        have hil : i < (fC l[f]).length := by omega
        apply hP119
        refine ⟨inf, fun hz => absurd ((nI_leU (by omega) (by omega)).mp hz) (by omega), fun _ => nee hfl hil ?_⟩
        intro P147 hP147
        have nx : ∀ y : Nat, gcn (ndB ps S l f) (i + 1) = gcn (ndB ps S l f) i + y → P147 (nI y) := fun y hy => by
          apply hP147
          intro x31 e31 x32 e32
          rw [nI_addU, ← hy] at e31
          rw [nI_s] at e32
          subst e31; subst e32
          exact ih2 (i + 1) (by omega)
        cases hn : ndB ps S l f i with
        | false => exact ⟨fun _ => nx 0 (by rw [gcn, hn, if_neg (by decide)]), fun hz => absurd rfl hz⟩
        | true => exact ⟨fun hz => absurd hz (by decide), fun _ => nx 1 (by rw [gcn, hn, if_pos rfl])⟩
  -- the look for guards
  suffices hL : ∀ (r f : Nat), f + r = l.length → (∀ g, (hg : g < l.length) → g < f → ∀ i, i < (fC l[g]).length → ¬ opA l[g] i = 29) → P23 (nI f) from hL _ 0 (Nat.zero_add _) (fun g hg h0 => by omega)
  intro r
  induction r with
  | zero =>
    intro f hf hn
    obtain rfl : f = l.length := by omega
    apply go
    rintro ⟨g, hg, i, hi, ho⟩
    exact hn g hg hg i hi ho
  | succ r ih =>
    intro f hf hn
    have hfl : f < l.length := by omega
    have h400 := (hok.2.2.1 f hfl).2.2.2.2.2.2.2.2.1
    have inf : vp_in (nI f) 36 := nI_inU (by omega) (by omega)
    apply hP23
    refine ⟨i03, fun hz => absurd ((nI_leU (by omega) (by omega)).mp hz) (by omega), fun _ => ?_⟩
    intro P37 hP37
    rw [nI_ix (n := f) (by omega), szt f hfl, nI_mul] at hP37
    suffices hI : ∀ (r i : Nat) (x : Int32), i + r = (fC l[f]).length → (∀ j, j < i → ¬ opA l[f] j = 29) → P37 x (nI i) from hI _ 0 0 (Nat.zero_add _) (fun j hj => by omega)
    intro r2
    induction r2 with
    | zero =>
      intro i x hi hni
      apply hP37
      refine ⟨inf, fun _ => ?_, fun hz => absurd ((nI_leU (by omega) (by omega)).mpr (by omega)) hz⟩
      intro x36 e36
      subst e36; rw [nI_s]
      refine ih (f + 1) (by omega) (fun g hg hgf => ?_)
      by_cases c : g = f
      · subst c; exact fun j hj => hni j (by omega)
      · exact hn g hg (by omega)
    | succ r2 ih2 =>
      intro i x hi hni
      have hil : i < (fC l[f]).length := by omega
      have o29 : opA l[f] i ≤ 29 := by rw [opA_at hil]; exact ((hok.2.2.1 f hfl).2.2.2.2.2.2.2.2.2.2.1 _ (List.getElem_mem hil)).1
      apply hP37
      refine ⟨inf, fun hz => absurd ((nI_leU (by omega) (by omega)).mp hz) (by omega), fun _ => nee hfl hil ?_⟩
      intro P63 hP63
      rw [nI_addU, nI_ix (n := 400 * f + i) (by omega), cot f hfl i hil] at hP63
      have nx : ∀ y : Int32, P63 y := fun y => by
        apply hP63
        intro x39 e39
        rw [nI_inj (by omega) (by omega)]
        refine ⟨nI_inU (by omega) (by omega), fun hne => ?_, fun h29 => Hg hb ⟨f, hfl, i, hil, h29⟩ s3 F3 mk3⟩
        intro x41 e41
        subst e41; rw [nI_s]
        refine ih2 (i + 1) x39 (by omega) (fun j hj => ?_)
        by_cases c : j = i
        · subst c; exact hne
        · exact hni j (by omega)
      exact ⟨fun _ => nx 0, fun _ => nx 1⟩
end

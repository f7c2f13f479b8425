/-! ===== PURE: the reference forges ===== -/
section
variable {s : yS} {l : List Fn} {ps : PS} {S : List Int32} {f i : Nat} {nd : Nat → Bool}
/-- slot 0 alone -/
theorem pgM.fr0 {s' : yS} (hok : pgOK l) (h : pgM s 0 l) (h1 : ∀ a i, (a = 178 ∧ i = 0) ∨ ((a = 179 ∨ a = 180 ∨ a = 181 ∨ a = 182 ∨ a = 184 ∨ a = 185) ∧ i < 12) ∨ ((a = 186 ∨ a = 187) ∧ i < 4800) ∨ (188 ≤ a ∧ a ≤ 192 ∧ i < 72) → sI s' a i = sI s a i) : pgM s' 0 l := by
  have h12 := hok.2.1
  refine ⟨(h1 _ _ (by omega)).trans h.1, fun f hf => (h.2 f hf).fr (fun a ha => h1 _ _ (by omega)) (fun a i ha hi => ?_) (fun a i ha hb hi => ?_)⟩
  · have h4 := (hok.2.2.1 f hf).2.2.2.2.2.2.2.2.1
    exact h1 _ _ (by omega)
  · have h6 := (hok.2.2.1 f hf).2.2.2.2.2.2.2.2.2.1
    exact h1 _ _ (by omega)
def srM (s : yS) (l : List Fn) (ps : PS) (S : List Int32) : Prop := pgM s 0 l ∧ plM s ps S ∧ myM s 0 l (RJs ps S) (nn ps S)
def dFm (f a i : Nat) : Prop := a = 203 ∨ (a = 184 ∧ i = 12 + f) ∨ ((a = 186 ∨ a = 187) ∧ 4800 + 400 * f ≤ i ∧ i < 4800 + 400 * f + 400) ∨ ((a = 188 ∨ a = 189 ∨ a = 190) ∧ 72 + 6 * f ≤ i ∧ i < 72 + 6 * f + 6)
theorem srM.fr {s' : yS} (hok : pgOK l) (h : srM s l ps S) (F : frM (dFm f) s s') : srM s' l ps S :=
  ⟨h.1.fr0 hok (fun a i ha => F.1 a i (by unfold dFm; omega)), h.2.1.fr (fun a i ha => F.1 a i (by unfold dFm; omega)) (fun a i ha => F.2.1 a i (by unfold dFm; omega)), fun f hf i hi b => by rw [F.2.1 _ _ (by unfold dFm; omega)]; exact h.2.2 f hf i hi b⟩
set_option maxHeartbeats 2000000 in
theorem k_forge {Q : Int32 → yS → Prop} (hok : pgOK l) (hm : mkd ps S) (hs : srM s l ps S) (hf : f < l.length) (hnd : ndB ps S l f = nd) (h4 : mv nd (fC l[f]).length ≤ 400) (hc1 : fnM s 1 f l[f])
    (H : ∀ s', frM (dFm f) s s' → fnM s' 1 f (frF nd l[f]) → Q (nI (gcn nd (fC l[f]).length)) s') : W_X12_forge s (nI f) Q := by
  have hfo := hok.2.2.1 f hf
  have h400 := hfo.2.2.2.2.2.2.2.2.1
  have h6 := hfo.2.2.2.2.2.2.2.2.2.1
  have hho := hfo.2.2.2.2.2.2.2.2.2.2.2
  have h12 := hok.2.1
  have hin : vp_in (nI f) 36 := nI_inU (by omega) (by omega)
  have srt : ∀ {t : yS}, frM (dFm f) s t → srM t l ps S := fun Ft => hs.fr hok Ft
  have szt : ∀ {t : yS}, frM (dFm f) s t → sI t 184 f = nI (fC l[f]).length := fun Ft => by
    have := ((srt Ft).1.2 f hf).2.2.2.2.1
    rw [show 12 * 0 + f = f by omega] at this; exact this
  have hmt : ∀ {t : yS}, frM (dFm f) s t → sI t 185 f = nI (fH l[f]).length := fun Ft => by
    have := ((srt Ft).1.2 f hf).2.2.2.2.2.1
    rw [show 12 * 0 + f = f by omega] at this; exact this
  have cot : ∀ {t : yS}, frM (dFm f) s t → ∀ i, i < (fC l[f]).length → sI t 186 (400 * f + i) = nI (opA l[f] i) ∧ sI t 187 (400 * f + i) = orA l[f] i := fun Ft i hi => by
    have := ((srt Ft).1.2 f hf).2.2.2.2.2.2.1 i hi
    rw [show 4800 * 0 + 400 * f + i = 400 * f + i by omega, ← opA_at hi, ← orA_at hi] at this; exact this
  have hht : ∀ {t : yS}, frM (dFm f) s t → ∀ (i : Nat) (hi : i < (fH l[f]).length), hnM t (6 * f + i) (fH l[f])[i] := fun Ft i hi => by
    have := ((srt Ft).1.2 f hf).2.2.2.2.2.2.2 i hi
    rw [show 72 * 0 + 6 * f + i = 6 * f + i by omega] at this; exact this
  -- needs
  have nee : ∀ {t : yS} {i : Nat} {Q : Int32 → Prop}, frM (dFm f) s t → i < (fC l[f]).length → Q (bI (nd i)) → W_X12_needs t 0 (nI f) (nI i) Q := fun {t i Q} Ft hi hQ => by
    have st := srt Ft
    exact k_needs (q := 0) (by omega) hok hm st.1 st.2.1 st.2.2 hf hi (fun r hr => by rw [ndB_of hr, hnd]; exact hQ)
  unfold W_X12_forge
  intro P4 hP4
  rw [nI_ix (n := f) (by omega), nI_addU, nI_ix (n := 12 + f) (by omega)] at hP4
  -- the handlers
  have L3 : ∀ (t : yS), frM (dFm f) s t → (∀ i, i ≤ (fC l[f]).length → sI t 203 i = nI (mv nd i)) → sI t 184 (12 + f) = nI (mv nd (fC l[f]).length) → (∀ j, j < mv nd (fC l[f]).length → sI t 186 (4800 + 400 * f + j) = nI (opA (frF nd l[f]) j) ∧ sI t 187 (4800 + 400 * f + j) = orA (frF nd l[f]) j) → ∀ P214 : Int32 → yS → Prop, (∀ (x13 : Int32) (s14 : yS), (vp_in (nI f) 36 ∧ 
      (((((nI 6) * (nI f)) + (sI s14 185 f)) ≤ x13 → vp_in (nI f) 36 ∧ 
       Q (nI (mv nd (fC l[f]).length) - (sI s14 184 f)) s14)
      ∧ (¬ (((nI 6) * (nI f)) + (sI s14 185 f)) ≤ x13 → vp_in x13 216 ∧ 
       vp_in (sI s14 188 (ix x13)) 401 ∧ 
       vp_in ((nI 72) + x13) 216 ∧ ∀ s20 : yS, s20 = wI s14 188 (ix ((nI 72) + x13)) (sI s14 203 (ix (sI s14 188 (ix x13)))) → 
       vp_in x13 216 ∧ 
       vp_in (sI s20 189 (ix x13)) 401 ∧ 
       vp_in ((nI 72) + x13) 216 ∧ ∀ s24 : yS, s24 = wI s20 189 (ix ((nI 72) + x13)) (sI s20 203 (ix (sI s20 189 (ix x13)))) → 
       vp_in x13 216 ∧ 
       vp_in (sI s24 190 (ix x13)) 401 ∧ 
       vp_in ((nI 72) + x13) 216 ∧ ∀ s28 : yS, s28 = wI s24 190 (ix ((nI 72) + x13)) (sI s24 203 (ix (sI s24 190 (ix x13)))) → 
       ∀ x29 : Int32, x29 = (x13 + 1) → 
       P214 x29 s28))) → P214 x13 s14) → 
     ∀ x30 : Int32, x30 = ((nI 6) * (nI f)) → 
     P214 x30 t := by
    intro t Ft mt zt ct P214 hP214 x30 e30
    rw [nI_mul] at e30 hP214
    subst e30
    suffices hL : ∀ (r k N : Nat) (u : yS), N = 6 * f + k → k + r = (fH l[f]).length → frM (dFm f) s u → (∀ a i, ¬ (188 ≤ a ∧ a ≤ 190) → sI u a i = sI t a i) → (∀ (j : Nat) (hj : j < (fH l[f]).length), j < k → sI u 188 (72 + (6 * f + j)) = nI (mv nd (hF (fH l[f])[j])) ∧ sI u 189 (72 + (6 * f + j)) = nI (mv nd (hT (fH l[f])[j])) ∧ sI u 190 (72 + (6 * f + j)) = nI (mv nd (hG (fH l[f])[j]))) → P214 (nI N) u from
      hL _ 0 (6 * f) t (by omega) (Nat.zero_add _) Ft (fun _ _ _ => rfl) (fun j hj h0 => by omega)
    intro r
    induction r with
    | zero =>
      intro k N u hN hk Fu nu hu
      subst hN
      obtain rfl : k = (fH l[f]).length := by omega
      apply hP214
      rw [hmt Fu, szt Fu, nI_addU, nI_sub mv_ge, show mv nd (fC l[f]).length - (fC l[f]).length = gcn nd (fC l[f]).length by unfold mv; omega]
      refine ⟨hin, fun _ => ⟨hin, H u Fu ?_⟩, fun hz => absurd ((nI_leU (by omega) (by omega)).mpr (Nat.le_refl _)) hz⟩
      obtain ⟨q1, q2, q3, q4, q5, q6, q7, q8⟩ := hc1
      refine ⟨(Fu.1 _ _ (by unfold dFm; omega)).trans q1, (Fu.1 _ _ (by unfold dFm; omega)).trans q2, (Fu.1 _ _ (by unfold dFm; omega)).trans q3, (Fu.1 _ _ (by unfold dFm; omega)).trans q4, ?_, ?_, fun i hi => ?_, fun i hi => ?_⟩
      · rw [frF_len, show 12 * 1 + f = 12 + f by omega, nu _ _ (by omega)]; exact zt
      · show _ = nI ((fH l[f]).map (hnN nd)).length
        rw [List.length_map]; exact (Fu.1 _ _ (by unfold dFm; omega)).trans q6
      · have hi' := hi
        rw [frF_len] at hi'
        rw [← opA_at hi, ← orA_at hi, show 4800 * 1 + 400 * f + i = 4800 + 400 * f + i by omega, nu _ _ (by omega), nu _ _ (by omega)]
        exact ct i hi'
      · have hi' : i < (fH l[f]).length := by
          have hi : i < ((fH l[f]).map (hnN nd)).length := hi
          rw [List.length_map] at hi; exact hi
        have : (fH (frF nd l[f]))[i] = hnN nd (fH l[f])[i] := List.getElem_map (hnN nd)
        rw [this]
        have hv := hu i hi' hi'
        have hq := q8 i hi'
        unfold hnM at hq ⊢
        rw [show 72 * 1 + 6 * f + i = 72 + (6 * f + i) by omega] at hq ⊢
        exact ⟨hv.1, hv.2.1, hv.2.2, (Fu.1 _ _ (by unfold dFm; omega)).trans hq.2.2.2.1, (Fu.1 _ _ (by unfold dFm; omega)).trans hq.2.2.2.2⟩
    | succ r ih =>
      intro k N u hN hk Fu nu hu
      subst hN
      have hkl : k < (fH l[f]).length := by omega
      have hh := hht Fu k hkl
      obtain ⟨b1, b2, b3, _⟩ := hho _ (List.getElem_mem hkl)
      have mu : ∀ i, i ≤ (fC l[f]).length → sI u 203 i = nI (mv nd i) := fun i hi => (nu _ _ (by omega)).trans (mt i hi)
      have in1 : vp_in (nI (6 * f + k)) 216 := nI_inU (by omega) (by omega)
      have in2 : vp_in (nI (72 + (6 * f + k))) 216 := nI_inU (by omega) (by omega)
      apply hP214
      rw [hmt Fu, nI_addU]
      refine ⟨hin, fun hz => absurd ((nI_leU (by omega) (by omega)).mp hz) (by omega), fun _ => ?_⟩
      rw [nI_addU, nI_ix (n := 6 * f + k) (by omega), nI_ix (n := 72 + (6 * f + k)) (by omega), hh.1, nI_ix (n := hF (fH l[f])[k]) (by omega), mu _ (by omega)]
      refine ⟨in1, nI_inU (by omega) (by omega), in2, ?_⟩
      intro s20 e20
      have n20 : ∀ a i, a ≠ 188 → sI s20 a i = sI u a i := fun a i h => by subst e20; rw [sI_w, if_neg (by omega)]
      rw [n20 189 _ (by omega), hh.2.1, nI_ix (n := hT (fH l[f])[k]) (by omega), n20 203 _ (by omega), mu _ (by omega)]
      refine ⟨in1, nI_inU (by omega) (by omega), in2, ?_⟩
      intro s24 e24
      have n24 : ∀ a i, a ≠ 188 → a ≠ 189 → sI s24 a i = sI u a i := fun a i h h2 => by subst e24; rw [sI_w, if_neg (by omega)]; exact n20 a i h
      rw [n24 190 _ (by omega) (by omega), hh.2.2.1, nI_ix (n := hG (fH l[f])[k]) (by omega), n24 203 _ (by omega) (by omega), mu _ (by omega)]
      refine ⟨in1, nI_inU (by omega) (by omega), in2, ?_⟩
      intro s28 e28 x29 e29
      subst e29; rw [nI_s]
      refine ih (k + 1) _ s28 (by omega) (by omega) (by subst e28; subst e24; subst e20; exact ((Fu.wI (by unfold dFm; omega)).wI (by unfold dFm; omega)).wI (by unfold dFm; omega)) (fun a i h => ?_) (fun j hj hjk => ?_)
      · subst e28; rw [sI_w, if_neg (by omega)]; subst e24; rw [sI_w, if_neg (by omega)]; subst e20; rw [sI_w, if_neg (by omega)]; exact nu a i h
      · subst e28; subst e24; subst e20
        by_cases c : j = k
        · subst c
          refine ⟨?_, ?_, ?_⟩
          · rw [sI_w, if_neg (by omega), sI_w, if_neg (by omega), sI_w, if_pos ⟨rfl, rfl⟩]
          · rw [sI_w, if_neg (by omega), sI_w, if_pos ⟨rfl, rfl⟩]
          · rw [sI_w, if_pos ⟨rfl, rfl⟩]
        · have := hu j hj (by omega)
          refine ⟨?_, ?_, ?_⟩
          · rw [sI_w, if_neg (by omega), sI_w, if_neg (by omega), sI_w, if_neg (by omega)]; exact this.1
          · rw [sI_w, if_neg (by omega), sI_w, if_neg (by omega), sI_w, if_neg (by omega)]; exact this.2.1
          · rw [sI_w, if_neg (by omega), sI_w, if_neg (by omega), sI_w, if_neg (by omega)]; exact this.2.2
  -- the code
  have L2 : ∀ (t : yS), frM (dFm f) s t → (∀ i, i < (fC l[f]).length → sI t 203 i = nI (mv nd i)) → P4 (nI (mv nd (fC l[f]).length)) (nI (fC l[f]).length) t := by
    intro t Ft mt
    apply hP4
    rw [szt Ft, nI_ix (n := (fC l[f]).length) (by omega)]
    refine ⟨hin, fun _ => ⟨hin, nI_inU (by omega) (by omega), ?_⟩, fun hz => absurd ((nI_leU (by omega) (by omega)).mpr (Nat.le_refl _)) hz⟩
    intro s7 e7
    refine ⟨nI_inU (by omega) (by omega), ?_⟩
    intro s9 e9
    have F9 : frM (dFm f) s s9 := by subst e9; subst e7; exact (Ft.wI (by unfold dFm; omega)).wI (by unfold dFm; omega)
    have m9 : ∀ i, i ≤ (fC l[f]).length → sI s9 203 i = nI (mv nd i) := fun i hi => by
      subst e9; rw [sI_w, if_neg (by omega)]; subst e7
      by_cases c : i = (fC l[f]).length
      · subst c; rw [sI_w, if_pos ⟨rfl, rfl⟩]
      · rw [sI_w, if_neg (by omega)]; exact mt i (by omega)
    have z9 : sI s9 184 (12 + f) = nI (mv nd (fC l[f]).length) := by subst e9; rw [sI_w, if_pos ⟨rfl, rfl⟩]
    clear e9 e7
    intro P69 hP69
    suffices hL : ∀ (r i : Nat) (u : yS), i + r = (fC l[f]).length → frM (dFm f) s u → (∀ a k, ¬ (a = 186 ∨ a = 187) → sI u a k = sI s9 a k) → (∀ j, j < mv nd i → sI u 186 (4800 + 400 * f + j) = nI (opA (frF nd l[f]) j) ∧ sI u 187 (4800 + 400 * f + j) = orA (frF nd l[f]) j) → P69 (nI i) u from
      hL _ 0 s9 (Nat.zero_add _) F9 (fun _ _ _ => rfl) (fun j hj => by rw [mv_0] at hj; omega)
    intro r
    induction r with
    | zero =>
      intro i u hi Fu nu cu
      obtain rfl : i = (fC l[f]).length := by omega
      apply hP69
      rw [szt Fu]
      refine ⟨hin, fun _ => L3 u Fu (fun i hi => (nu _ _ (by omega)).trans (m9 i hi)) ((nu _ _ (by omega)).trans z9) cu, fun hz => absurd ((nI_leU (by omega) (by omega)).mpr (Nat.le_refl _)) hz⟩
    | succ r ih =>
      intro i u hi Fu nu cu
      have hil : i < (fC l[f]).length := by omega
      have mi : sI u 203 i = nI (mv nd i) := (nu _ _ (by omega)).trans (m9 i (by omega))
      have ms := mv_s (nd := nd) (i := i)
      have ml := mv_le (nd := nd) (i := i + 1) (j := (fC l[f]).length) (by omega)
      have mg := mv_ge (nd := nd) (i := i + 1)
      have hio := hfo.2.2.2.2.2.2.2.2.2.2.1 _ (List.getElem_mem hil)
      have o29 : opA l[f] i ≤ 29 := by rw [opA_at hil]; exact hio.1
      have oJ : 17 < opA l[f] i ∧ opA l[f] i < 21 → ∃ k, k < (fC l[f]).length ∧ orA l[f] i = nI k := fun h => by rw [opA_at hil] at h; rw [orA_at hil]; exact hio.2.2.1 h
      obtain ⟨fo1, fo2⟩ := frF_op (nd := nd) (x := l[f]) hil
      have in1 : vp_in (nI (400 * f + i)) 14400 := nI_inU (by omega) (by omega)
      apply hP69
      rw [szt Fu]
      refine ⟨hin, fun hz => absurd ((nI_leU (by omega) (by omega)).mp hz) (by omega), fun _ => ?_⟩
      rw [nI_mul, nI_addU, nI_addU, nI_ix (n := i) (by omega), mi, nI_addU]
      intro x31 e31
      subst e31
      refine ⟨nI_inU (by omega) (by omega), ?_⟩
      intro x33 e33
      subst e33
      refine nee Fu hil ?_
      intro P142 hP142
      rw [nI_ix (n := 400 * f + i) (by omega)] at hP142
      -- behind the guard
      have main : ∀ (N : Nat) (u2 : yS), N = 4800 + 400 * f + (mv nd (i + 1) - 1) → frM (dFm f) s u2 → (∀ a k, ¬ (a = 186 ∨ a = 187) → sI u2 a k = sI s9 a k) → (∀ j, j < mv nd (i + 1) - 1 → sI u2 186 (4800 + 400 * f + j) = nI (opA (frF nd l[f]) j) ∧ sI u2 187 (4800 + 400 * f + j) = orA (frF nd l[f]) j) → P142 (nI N) u2 := by
        intro N u2 hN F2 n2 c2
        subst hN
        have inx : vp_in (nI (4800 + 400 * f + (mv nd (i + 1) - 1))) 14400 := nI_inU (by omega) (by omega)
        apply hP142
        rw [(cot F2 i hil).1]
        refine ⟨in1, ?_⟩
        intro x38 e38
        subst e38
        rw [nI_ix (n := 4800 + 400 * f + (mv nd (i + 1) - 1)) (by omega)]
        refine ⟨inx, ?_⟩
        intro s40 e40
        have F40 : frM (dFm f) s s40 := by subst e40; exact F2.wI (by unfold dFm; omega)
        have n40 : ∀ a k, ¬ (a = 186 ∨ a = 187) → sI s40 a k = sI s9 a k := fun a k h => by subst e40; rw [sI_w, if_neg (by omega)]; exact n2 a k h
        have c40 : ∀ j, j < mv nd (i + 1) - 1 → sI s40 186 (4800 + 400 * f + j) = nI (opA (frF nd l[f]) j) ∧ sI s40 187 (4800 + 400 * f + j) = orA (frF nd l[f]) j := fun j hj => by
          subst e40; rw [sI_w, if_neg (by omega), sI_w, if_neg (by omega)]; exact c2 j hj
        have d40 : sI s40 186 (4800 + 400 * f + (mv nd (i + 1) - 1)) = nI (opA l[f] i) := by subst e40; rw [sI_w, if_pos ⟨rfl, rfl⟩]
        clear e40
        intro P202 hP202 P195 hP195
        have nx : ∀ y : Int32, y = orA (frF nd l[f]) (mv nd (i + 1) - 1) → P202 y := by
          intro y hy
          apply hP202
          refine ⟨inx, ?_⟩
          intro s43 e43 x44 e44
          subst e44; rw [nI_s]
          refine ih (i + 1) s43 (by omega) (by subst e43; exact F40.wI (by unfold dFm; omega)) (fun a k h => by subst e43; rw [sI_w, if_neg (by omega)]; exact n40 a k h) (fun j hj => ?_)
          subst e43
          rw [sI_w, if_neg (by omega)]
          by_cases c : j = mv nd (i + 1) - 1
          · subst c; rw [sI_w, if_pos ⟨rfl, rfl⟩, fo1]; exact ⟨d40, hy⟩
          · rw [sI_w, if_neg (by omega)]; exact c40 j (by omega)
        rw [(cot F40 i hil).2] at hP195 ⊢
        rw [nI_leU (by omega) (by omega), nI_leU (by omega) (by omega)]
        refine ⟨fun hle => hP195 ⟨in1, nx _ (by rw [fo2, if_neg (by omega)])⟩, fun hgt => ⟨fun hle => hP195 ⟨in1, nx _ (by rw [fo2, if_neg (by omega)])⟩, fun hlt => ?_⟩⟩
        obtain ⟨k, hk, ek⟩ := oJ (by omega)
        rw [ek, nI_ix (by omega), n40 203 _ (by omega), m9 k (by omega)]
        refine ⟨in1, nI_inU (by omega) (by omega), nx _ ?_⟩
        rw [fo2, if_pos (by omega), ek, nI_ix (by omega)]
      cases hn : nd i with
      | false =>
        rw [hn, if_neg (by decide)] at ms
        refine ⟨fun _ => main _ u (by omega) Fu nu (fun j hj => cu j (by omega)), fun hz => absurd rfl hz⟩
      | true =>
        rw [hn, if_pos rfl] at ms
        obtain ⟨fg1, fg2⟩ := frF_gd (nd := nd) (x := l[f]) hil hn
        have ing : vp_in (nI (4800 + 400 * f + mv nd i)) 14400 := nI_inU (by omega) (by omega)
        refine ⟨fun hz => absurd hz (by decide), fun _ => ⟨ing, ?_⟩⟩
        rw [nI_ix (n := 4800 + 400 * f + mv nd i) (by omega), nI_ix (n := 400 * f + i) (by omega)]
        intro s49 e49
        have F49 : frM (dFm f) s s49 := by subst e49; exact Fu.wI (by unfold dFm; omega)
        rw [(cot F49 i hil).2]
        refine ⟨in1, ing, ?_⟩
        intro s52 e52 x53 e53
        subst e53; rw [nI_s]
        refine main _ s52 (by omega) (by subst e52; exact F49.wI (by unfold dFm; omega)) (fun a k h => by subst e52; rw [sI_w, if_neg (by omega)]; subst e49; rw [sI_w, if_neg (by omega)]; exact nu a k h) (fun j hj => ?_)
        subst e52; subst e49
        by_cases c : j = mv nd i
        · subst c
          rw [sI_w, if_neg (by omega), sI_w, if_pos ⟨rfl, rfl⟩, sI_w, if_pos ⟨rfl, rfl⟩, fg1, fg2]
          exact ⟨rfl, rfl⟩
        · rw [sI_w, if_neg (by omega), sI_w, if_neg (by omega), sI_w, if_neg (by omega), sI_w, if_neg (by omega)]
          exact cu j (by omega)
  suffices hL : ∀ (r i : Nat) (t : yS), i + r = (fC l[f]).length → frM (dFm f) s t → (∀ j, j < i → sI t 203 j = nI (mv nd j)) → P4 (nI (mv nd i)) (nI i) t from
    hL _ 0 s (Nat.zero_add _) frM.rfl' (fun j hj => by omega)
  intro r
  induction r with
  | zero =>
    intro i t hi Ft mt
    obtain rfl : i = (fC l[f]).length := by omega
    exact L2 t Ft mt
  | succ r ih =>
    intro i t hi Ft mt
    have hil : i < (fC l[f]).length := by omega
    apply hP4
    rw [szt Ft]
    refine ⟨hin, fun hz => absurd ((nI_leU (by omega) (by omega)).mp hz) (by omega), fun _ => ⟨nI_inU (by omega) (by omega), ?_⟩⟩
    rw [nI_ix (n := i) (by omega)]
    intro s55 e55
    have F55 : frM (dFm f) s s55 := by subst e55; exact Ft.wI (by unfold dFm; omega)
    have m55 : ∀ j, j < i + 1 → sI s55 203 j = nI (mv nd j) := fun j hj => by
      subst e55
      by_cases c : j = i
      · subst c; rw [sI_w, if_pos ⟨rfl, rfl⟩]
      · rw [sI_w, if_neg (by omega)]; exact mt j (by omega)
    refine nee F55 hil ?_
    intro P37 hP37
    have nx : ∀ y : Nat, mv nd (i + 1) = mv nd i + y → P37 (nI y) := fun y hy => by
      apply hP37
      intro x58 e58 x59 e59
      rw [nI_addU, ← hy] at e58
      rw [nI_s] at e59
      subst e58; subst e59
      exact ih (i + 1) s55 (by omega) F55 m55
    cases hn : nd i with
    | false => exact ⟨fun _ => nx 1 (by rw [mv_s, hn, if_neg (by decide)]), fun hz => absurd rfl hz⟩
    | true => exact ⟨fun hz => absurd hz (by decide), fun _ => nx 2 (by rw [mv_s, hn, if_pos rfl])⟩
end

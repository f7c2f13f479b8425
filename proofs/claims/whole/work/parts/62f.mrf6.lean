/-- the watch of a run, at the reference -/
def waMr (s : yS) (ps : PS) (S : List Int32) (x : Int32) (f : Nat → Int32) : Prop := sI s 139 97 = x ∧ inQ ps S x ∧ (∀ k, k < 6 → sI s 205 k = f k) ∧ okR6 ps f
def mBr (s : yS) (ps : PS) (S : List Int32) (z : MS) : Prop := (sI s 139 95 = nI (aU z) ∧ ∀ a, a < aU z → sI s 208 a = aM z a) ∧ (sI s 139 92 = nI (aS z) ∧ sI s 139 93 = nI (aO z) ∧ sI s 139 94 = nI (aP z)) ∧ waMr s ps S (aX z) (aC z) ∧ ∀ i, i < 5 * aO z → i < 1280 → sI s 207 i = aT z i
def mMr (s : yS) (z : MS) : Prop := mFs s (aF z) ∧ sI s 139 111 = nI (aF z).length ∧ rwMr s (aR2 z)
def dRm (a i : Nat) : Prop := (a = 139 ∧ ((90 ≤ i ∧ i ≤ 95) ∨ i = 97 ∨ i = 105 ∨ i = 111)) ∨ a = 175 ∨ a = 176 ∨ a = 205 ∨ (207 ≤ a ∧ a ≤ 215)
def stMm (s : yS) (q : Nat) (l : List Fn) (ps : PS) (S : List Int32) (an : Nat → Int32) (na : Nat) : Prop := q ≤ 1 ∧ sI s 139 112 = nI q ∧ pgM s q l ∧ plM s ps S ∧ anM s an na
/-- what a round comes to -/
def HM (s : yS) (ps : PS) (S : List Int32) (e : End) (Q : yS → Prop) : Prop := ∀ s', frM dRm s s' → mBr s' ps S e.1 → (∀ x, e.2 = some x → sI s' 139 90 = nI x.1 ∧ sI s' 139 91 = x.2 ∧ sI s' 139 111 = 0) → (e.2 = none → mMr s' e.1 ∧ sI s' 139 90 = nI 3 ∧ sI s' 139 91 = 0) → Q s'
section
variable {s : yS} {l : List Fn} {r : Fr} {fs : List Fr} {R : List (Nat × Nat)} {q n na : Nat} {ps : PS} {S : List Int32} {an : Nat → Int32} {z : MS}
theorem stMm.fr {s' : yS} (h : stMm s q l ps S an na) (F : ∀ a i, ¬ (dRm a i ∨ (a = 139 ∧ i = 96)) → sI s' a i = sI s a i) (FJ : ∀ a i, ¬ (dRm a i ∨ (a = 139 ∧ i = 96)) → sJ s' a i = sJ s a i) : stMm s' q l ps S an na := by
  obtain ⟨h1, h2, h3, h4, h5, h6, h7⟩ := h
  exact ⟨h1, (F _ _ (by unfold dRm; omega)).trans h2, h3.fr (fun a i ha => F _ _ (by unfold dRm; omega)), h4.fr (fun a i ha => F _ _ (by unfold dRm; omega)) (fun a i ha => FJ _ _ (by unfold dRm; omega)), (F _ _ (by unfold dRm; omega)).trans h5, h6, fun i hi => (F _ _ (by unfold dRm; omega)).trans (h7 i hi)⟩
theorem mBr.fr {s' : yS} (h : mBr s ps S z) (F : ∀ a i, (a = 139 ∧ (i = 92 ∨ i = 93 ∨ i = 94 ∨ i = 95 ∨ i = 97)) ∨ a = 205 ∨ a = 207 ∨ a = 208 → sI s' a i = sI s a i) : mBr s' ps S z := by
  obtain ⟨⟨h1, h2⟩, ⟨h3, h4, h5⟩, ⟨w1, w2, w3, w4⟩, h8⟩ := h
  exact ⟨⟨(F _ _ (by omega)).trans h1, fun a ha => (F _ _ (by omega)).trans (h2 a ha)⟩, ⟨(F _ _ (by omega)).trans h3, (F _ _ (by omega)).trans h4, (F _ _ (by omega)).trans h5⟩, ⟨(F _ _ (by omega)).trans w1, w2, fun k hk => (F _ _ (by omega)).trans (w3 k hk), w4⟩, fun i h1 h2 => (F _ _ (by omega)).trans (h8 i h1 h2)⟩
theorem rwMr.fr {s' : yS} (h : rwMr s R) (F : ∀ a i, (a = 139 ∧ i = 105) ∨ a = 209 ∨ a = 210 → sI s' a i = sI s a i) : rwMr s' R := ⟨(F _ _ (by omega)).trans h.1, fun k hk => (F _ _ (by omega)).trans (h.2.1 k hk), fun k h1 h2 => (F _ _ (by omega)).trans (h.2.2 k h1 h2)⟩
theorem step_in {c : Nat} {a b d x : Int32} {f : Nat → Int32} (hm : mkd ps S) (hc : c < 16) (hx : inQ ps S x) (hok : okR6 ps f) (h : stepP ps c (vOf a b d f) x ≠ 0) : inQ ps S (stepP ps c (vOf a b d f) x) := by
  have hD := inD_v (a := a) (b := b) (c := d) hm.1 hok
  rw [stepP_tr hm.1 hm.2.1 hm.2.2.1 hD hc] at h ⊢
  exact ((TT_step hm hx (lix_offs hc)).2 h).2
set_option maxHeartbeats 1000000 in
theorem k_guardM {c pas : Nat} {x : Int32} {f : Nat → Int32} {Q : yS → Prop} (hc : c < 16) (hm : mkd ps S) (hpl : plM s ps S) (hF : mFs s (r :: fs)) (h111 : sI s 139 111 = nI (fs.length + 1)) (hK : fs.length < 40) (h4 : sI s 139 94 = nI pas) (hn : c % 4 ≤ (jS r).length) (hwa : waMr s ps S x f)
    (H1 : ¬ stepP ps c (vOf (arg c (jS r) 0) (arg c (jS r) 1) (arg c (jS r) 2) f) x = 0 → ∀ s', frM (fun a i => dSm a i ∨ (a = 139 ∧ (i = 94 ∨ i = 97)) ∨ a = 175 ∨ a = 176 ∨ a = 205) s s' → sI s' 139 94 = nI (pas + 1) → waMr s' ps S (stepP ps c (vOf (arg c (jS r) 0) (arg c (jS r) 1) (arg c (jS r) 2) f) x) (fun k => if k < (pC ps).length then nxt ps c (vOf (arg c (jS r) 0) (arg c (jS r) 1) (arg c (jS r) 2) f) k (f k) else f k) → mFs s' ((jF r, jP r + 1, jS r, jL r) :: fs) → sI s' 139 111 = nI (fs.length + 1) → Q s')
    (H0 : stepP ps c (vOf (arg c (jS r) 0) (arg c (jS r) 1) (arg c (jS r) 2) f) x = 0 → ∀ s', frM (fun a i => dSm a i ∨ (a = 139 ∧ (i = 90 ∨ i = 91)) ∨ a = 175 ∨ a = 176) s s' → sI s' 139 90 = nI 2 → sI s' 139 91 = 0 → sI s' 139 111 = 0 → Q s') : W_X12_guard s (nI c) Q := by
  have ht := hF.tp h111
  obtain ⟨⟨f1, f2, f3, f4, f5, f6⟩, fw⟩ := id hF
  obtain ⟨w0, w1, w2, w3⟩ := hwa
  have hwf := hm.1
  have hl := hm.2.1
  have hres := hm.2.2.1
  have h6 := hl.1
  have hag := fun a b d => vOf_ag (ps := ps) (a := a) (b := b) (c := d) hl w2
  unfold W_X12_guard
  rw [nI_mod (by omega) (by omega)]
  intro x1 e1
  subst e1
  have main : W_X12_setCall s (arg c (jS r) 0) (arg c (jS r) 1) (arg c (jS r) 2) 205 6 
    (fun s5 => W_X12_step s5 (sI s5 139 97) (nI c)
    (fun r6 => ((¬ r6 = 0 → ∀ s7 : yS, s7 = wI s5 139 97 r6 → 
     W_X12_count s7 205 6 (nI c)
     (fun s8 => ∀ s9 : yS, s9 = wI s8 139 94 ((sI s8 139 94) + 1) → 
     W_X12_goOn s9 
     (fun s10 => Q s10)))
    ∧ (r6 = 0 → W_X12_end s5 (nI 2) 0 
     (fun s11 => Q s11))))) := by
    refine k_setCall (Or.inl rfl) (fun s5 F5 v5 => ?_)
    have p5 : poM s5 ps := hpl.1.fr (fun a i ha => F5.1 _ _ (by omega)) (fun a i ha hb => F5.2.1 _ _ (by omega))
    rw [F5.1 139 _ (by omega), w0]
    refine k_step p5 hwf hl hres hc v5 ?_
    rw [stepP_cong hwf hl hres (hag _ _ _)]
    have hin := step_in (a := arg c (jS r) 0) (b := arg c (jS r) 1) (d := arg c (jS r) 2) hm hc w1 w3
    have hcg := hag (arg c (jS r) 0) (arg c (jS r) 1) (arg c (jS r) 2)
    generalize hv1 : vOf (arg c (jS r) 0) (arg c (jS r) 1) (arg c (jS r) 2) f = v at *
    generalize hv2 : vOf (arg c (jS r) 0) (arg c (jS r) 1) (arg c (jS r) 2) (sI s 205) = v' at *
    refine ⟨fun hne => ?_, fun h0 => ?_⟩
    · intro s7 e7
      have n7 : ∀ a i, ¬ (a = 139 ∧ i = 97) → sI s7 a i = sI s5 a i := fun a i h => by subst e7; rw [sI_w, if_neg h]
      have F7 : frM (fun a i => (a = 139 ∧ i = 97) ∨ a = 175 ∨ a = 176) s s7 := by subst e7; exact (F5.mono (fun a i h => Or.inr h)).wI (by omega)
      have p7 : poM s7 ps := hpl.1.fr (fun a i ha => F7.1 _ _ (by omega)) (fun a i ha hb => F7.2.1 _ _ (by omega))
      have v7 : vM s7 v' := ⟨fun i hi => (n7 _ _ (by omega)).trans (v5.1 i hi), fun i hi => (n7 _ _ (by omega)).trans (v5.2 i hi)⟩
      have x7 : sI s7 139 97 = stepP ps c v x := by subst e7; rw [sI_w, if_pos ⟨rfl, rfl⟩]
      refine k_count (Or.inl rfl) p7 hwf hl hres hc v7 (fun s8 F8 n8 => ?_)
      have F8' : frM (fun a i => (a = 139 ∧ i = 97) ∨ a = 175 ∨ a = 176 ∨ a = 205) s s8 := (F7.mono (fun a i h => by omega)).trans (F8.mono (fun a i h => by omega))
      rw [F8'.1 139 94 (by omega), h4, nI_s]
      intro s9 e9
      have n9 : ∀ a i, ¬ (a = 139 ∧ i = 94) → sI s9 a i = sI s8 a i := fun a i h => by subst e9; rw [sI_w, if_neg h]
      have F9 : frM (fun a i => (a = 139 ∧ (i = 94 ∨ i = 97)) ∨ a = 175 ∨ a = 176 ∨ a = 205) s s9 := by subst e9; exact (F8'.mono (fun a i h => by omega)).wI (by omega)
      have h2 : sI s9 212 fs.length = nI (jP r) := (F9.1 _ _ (by omega)).trans f2
      refine k_goOn hK ((F9.1 _ _ (by omega)).trans h111) h2 (fun s' F' p' => ?_)
      have hfin := hF.stk (s' := s') (st' := jS r) (pl' := jP r + 1) (fun a i h ha => by rw [F'.1 _ _ (by omega), F9.1 _ _ (by omega)]) ⟨by rw [F'.1 _ _ (by omega), F9.1 _ _ (by omega)]; exact ht.1, by rw [F'.1 _ _ (by omega), F9.1 _ _ (by omega)]; exact ht.2.1, ht.2.2.fr (fun i _ _ => by rw [F'.1 _ _ (by omega), F9.1 _ _ (by omega)])⟩ p' f4
      refine H1 hne s' ((F9.mono (fun a i h => by omega)).trans (F'.mono (fun a i h => by unfold dSm; omega))) ?_ ⟨?_, hin hne, fun k hk => ?_, okR6_nxt hwf w3⟩ hfin.1 hfin.2
      · rw [F'.1 _ _ (by omega)]; subst e9; rw [sI_w, if_pos ⟨rfl, rfl⟩]
      · rw [F'.1 _ _ (by omega), n9 _ _ (by omega), F8.1 _ _ (by omega)]; exact x7
      · rw [F'.1 _ _ (by omega), n9 _ _ (by omega)]
        dsimp only
        by_cases ck : k < (pC ps).length
        · rw [if_pos ck, n8 k ck, F7.1 _ _ (by omega), w2 k hk, nxt_cong hwf hl hres hcg]
        · rw [if_neg ck, F8.1 _ _ (by omega), F7.1 _ _ (by omega), w2 k hk]
    · unfold W_X12_end
      intro u1 e1 u2 e2 u3 e3
      refine H0 h0 u3 ?_ ?_ ?_ ?_
      · subst e3; subst e2; subst e1
        exact (((F5.mono (fun a i h => by omega)).wI (by omega)).wI (by omega)).wI (by unfold dSm; omega)
      · subst e3; rw [sI_w, if_neg (by omega)]; subst e2; rw [sI_w, if_neg (by omega)]; subst e1; rw [sI_w, if_pos ⟨rfl, rfl⟩]
      · subst e3; rw [sI_w, if_neg (by omega)]; subst e2; rw [sI_w, if_pos ⟨rfl, rfl⟩]
      · subst e3; rw [sI_w, if_pos ⟨rfl, rfl⟩]
  have ar : ∀ (k : Nat) (P : Int32 → Prop), k < 3 → P (arg c (jS r) k) → (nI (c % 4) ≤ nI k → P 0) ∧ (¬ nI (c % 4) ≤ nI k → W_X12_under s (nI (c % 4) - nI (k + 1)) (fun r => P r)) := by
    intro k P hk H
    unfold arg at H
    rw [nI_leU (by omega) (by omega)]
    refine ⟨fun hle => by rw [if_neg (by omega)] at H; exact H, fun hlt => ?_⟩
    rw [if_pos (by omega)] at H
    rw [nI_sub (by omega)]
    exact k_under hK f4 ht (by omega) (by rw [show c % 4 - (k + 1) = c % 4 - 1 - k by omega]; exact H)
  intro P20 hP20
  refine ar 0 P20 (by omega) (hP20 _ ?_)
  intro P36 hP36
  refine ar 1 P36 (by omega) (hP36 _ ?_)
  intro P52 hP52
  exact ar 2 P52 (by omega) (hP52 _ main)
end

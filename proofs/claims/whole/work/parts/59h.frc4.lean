section
variable {s : yS} {g g2 g3 p : Nat} {l : List Fn} {ps : PS} {S : List Int32}
def mkC (s : yS) (g : Nat) (l : List Fn) (ps : PS) (S : List Int32) : Prop := sI s g 13 = 0 ∨ sI s g 13 = 1 ∧ myC s g l (RJs ps S) (nn ps S)
def dFgT (g g2 a i : Nat) : Prop := dSf g a i ∨ dFo g2 a i ∨ dVy g2 a i
def frT (g g2 : Nat) (s s' : yS) : Prop := (∀ a i, ¬ dFgT g g2 a i → ¬ (a = 0 ∧ i = 12) → sI s' a i = sI s a i) ∧ (∀ a i, ¬ dFgT g g2 a i → sJ s' a i = sJ s a i) ∧ ∀ a i, ¬ (a = 116 ∧ (i = 0 ∨ i = 1)) → ¬ (a = 114 ∧ i = 2) → ¬ (a = 0 ∧ (i = 9 ∨ i = 10)) → sR s' a i = sR s a i
/-- the sets, settled -/
theorem c_settleK {Q : yS → Prop} (hok : pgOK l) (hva : vAll l = none) (hg : gOK g) (hp3 : p = 3 ∨ p = 20) (hp : pgC s g l) (hpl : plC s p ps S) (hmk : mkC s g l ps S)
    (H : ∀ s', frS g s s' → sI s' g 13 = 1 → myC s' g l (RJs ps S) (nn ps S) → Q s') : W_X0_settle s g p Q := by
  refine c_settle hok hva hg hp3 hp hpl.po (fun hne => ?_) (fun _ s' F' k' y' => H s' F' k' y')
  rcases hmk with h | ⟨h, h2⟩
  · exact absurd h hne
  · exact H s ⟨fun _ _ _ => rfl, fun _ _ _ => rfl, fun _ _ _ => rfl⟩ h h2
theorem pgC.st {s' : yS} (hg : gOK g) (hg2 : gOK g2) (h : pgC s g2 l) (F : frS g s s') : pgC s' g2 l := by
  have hgv : g = 37 ∨ g = 55 ∨ g = 73 := hg
  have hgv2 : g2 = 37 ∨ g2 = 55 ∨ g2 = 73 := hg2
  exact h.fr (fun a i ha => F.1 a i (by unfold dSf dFb dFl; omega))
theorem plC.st {s' : yS} (hg : gOK g) (hp3 : p = 3 ∨ p = 20) (h : plC s p ps S) (F : frS g s s') : plC s' p ps S := by
  have hgv : g = 37 ∨ g = 55 ∨ g = 73 := hg
  exact h.fr (fun a i ha => F.1 a i (by unfold dSf dFb dFl; omega)) (fun a i ha => F.2.1 a i (by unfold dSf dFb dFl; omega))
theorem ruC.st {s' : yS} {rs : List Rl} (hg : gOK g) (hp3 : p = 3 ∨ p = 20) (h : ruC s p rs) (F : frS g s s') : ruC s' p rs := by
  have hgv : g = 37 ∨ g = 55 ∨ g = 73 := hg
  intro c hc
  rw [F.1 _ _ (by unfold dSf dFb dFl; omega)]; exact h c hc
theorem c_forgeIt {Q : Int32 → yS → Prop} (hb : (sI s 0 11) = 0 ∨ (sI s 0 11) = 1 ∧ (sR s 0 8) = g + 1 ∧ gOK g ∧ pgC s g l ∧ pgOK l ∧ vAll l = none ∧ mkC s g l ps S) (hp3 : p = 3 ∨ p = 20) (hr6 : (sR s 0 6) = p + 1) (hm : mkd ps S) (hpl : plC s p ps S) (hru : ruC s p (pR ps)) (hg2 : gOK g2) (hg3 : gOK g3) (hne : g ≠ g2) (h9 : (sR s 0 9) = g3 + 1) (h10 : (sR s 0 10) = g2 + 1)
    (Hn : (sI s 0 11) = 0 → Q (-1) s)
    (Hg : (sI s 0 11) = 1 → hsG l → Q (-1) s)
    (H2 : (sI s 0 11) = 1 → ¬ hsG l → ¬ fitB ps S l → ∀ s', frT g g2 s s' → (sI s' 0 12) = (sI s 0 12) → (sR s' 0 9) = g3 + 1 → (sR s' 0 10) = g2 + 1 → mkC s' g l ps S → pgC s' g l → Q (-2) s')
    (H1 : (sI s 0 11) = 1 → ¬ hsG l → fitB ps S l → ∀ s', frT g g2 s s' → (sI s' 0 12) = 1 → (sR s' 0 9) = g2 + 1 → (sR s' 0 10) = g3 + 1 → mkC s' g l ps S → pgC s' g l → sI s' g2 13 = 0 → pgC s' g2 (frg ps S l) → tyD s' g2 (frg ps S l) → Q (nI (gds ps S l)) s') : W_X11_forgeIt s Q := by
  unfold W_X11_forgeIt
  rcases hb with hb | ⟨hb, h8, hg, hp, hok, hva, hmk⟩
  · rw [hb]; exact ⟨fun _ => Hn hb, fun hz => absurd rfl hz⟩
  rw [hb]
  refine ⟨fun hz => absurd hz (by decide), fun _ => ⟨g, h8, hg.kd, ?_⟩⟩
  have hkp : kd p = some (7, 0) := by rcases hp3 with e | e <;> (rw [e]; rfl)
  have hgv : g = 37 ∨ g = 55 ∨ g = 73 := hg
  have hgv2 : g2 = 37 ∨ g2 = 55 ∨ g2 = 73 := hg2
  refine c_hasGuard hok hp (fun hh => ⟨fun hz => absurd hz (by decide), fun _ => Hg hb hh⟩) (fun hng => ⟨fun _ => ⟨g, h8, hg.kd, p, hr6, hkp, ?_⟩, fun hz => absurd rfl hz⟩)
  refine c_settleK hok hva hg hp3 hp hpl hmk (fun s5 F5 k5 y5 => ?_)
  have r5 : ∀ a i, ¬ (a = 116 ∧ (i = 0 ∨ i = 1)) → sR s5 a i = sR s a i := F5.2.2
  refine ⟨g, (r5 _ _ (by omega)).trans h8, hg.kd, p, (r5 _ _ (by omega)).trans hr6, hkp, g2, (r5 _ _ (by omega)).trans h10, hg2.kd, ?_⟩
  have s5c : srC s5 g p l ps S := ⟨hg, hp3, hp.st hg hg F5, hpl.st hg hp3 F5, hru.st hg hp3 F5, y5⟩
  refine c_forge hok hm s5c hg2 hne (fun hfit s10 F10 p10 z10 => ?_) (fun hnf s10 F10 => ?_)
  · have hgd : gsum (ndB ps S l) l l.length < 2147483648 := by have := hfit.2; omega
    refine ⟨fun _ => ?_, fun hz => absurd (nI_ge0 hgd) hz⟩
    have r10 : ∀ a i, ¬ (a = 116 ∧ (i = 0 ∨ i = 1)) → sR s10 a i = sR s a i := fun a i h => (F10.2.2 a i).trans (r5 a i h)
    refine ⟨g2, (r10 _ _ (by omega)).trans h10, hg2.kd, ?_⟩
    have okf := frg_ok (S := S) hok hfit
    have vef := frg_ver (S := S) hok hva hfit
    refine c_verify hg2 p10 okf (fun _ s13 F13 t13 _ _ => ?_) (fun e he => ?_)
    · have r13 : ∀ a i, ¬ (a = 116 ∧ (i = 0 ∨ i = 1)) → ¬ (a = 114 ∧ i = 2) → sR s13 a i = sR s a i := fun a i h1 h2 => (F13.2.2 a i h2).trans (r10 a i h1)
      refine ⟨g3, (r13 _ _ (by omega) (by omega)).trans h9, hg3.kd, g2, (r13 _ _ (by omega) (by omega)).trans h10, hg2.kd, ?_⟩
      intro s16 e16 s17 e17 s18 e18
      have n18 : ∀ a i, ¬ (a = 0 ∧ i = 12) → sI s18 a i = sI s13 a i := fun a i h => by subst e18; rw [sI_w, if_neg (by omega)]; subst e17; subst e16; rfl
      have J18 : ∀ a i, sJ s18 a i = sJ s13 a i := fun a i => by subst e18; subst e17; subst e16; rfl
      have R18 : ∀ a i, ¬ (a = 0 ∧ (i = 9 ∨ i = 10)) → sR s18 a i = sR s13 a i := fun a i h => by
        subst e18
        show sR s17 a i = _
        subst e17; rw [sR_w, if_neg (by omega)]; subst e16; rw [sR_w, if_neg (by omega)]
      have kp : ∀ a i, ¬ dFo g2 a i → ¬ dVy g2 a i → ¬ (a = 0 ∧ i = 12) → sI s18 a i = sI s5 a i := fun a i h1 h2 h3 => by rw [n18 a i h3, F13.1 a i h2, F10.1 a i h1]
      have kj : ∀ a i, ¬ dFo g2 a i → ¬ dVy g2 a i → sJ s18 a i = sJ s5 a i := fun a i h1 h2 => by rw [J18, F13.2.1 a i h2, F10.2.1 a i h1]
      refine H1 hb hng hfit s18 ⟨fun a i h h3 => ?_, fun a i h => ?_, fun a i h1 h2 h3 => ?_⟩ ?_ ?_ ?_ ?_ ?_ ?_ ?_ ?_
      · unfold dFgT at h
        rw [kp a i (fun hh => h (Or.inr (Or.inl hh))) (fun hh => h (Or.inr (Or.inr hh))) h3]
        exact F5.1 a i (fun hh => h (Or.inl hh))
      · unfold dFgT at h
        rw [kj a i (fun hh => h (Or.inr (Or.inl hh))) (fun hh => h (Or.inr (Or.inr hh)))]
        exact F5.2.1 a i (fun hh => h (Or.inl hh))
      · rw [R18 a i h3]; exact r13 a i h1 h2
      · subst e18; rw [sI_w, if_pos ⟨rfl, rfl⟩]
      · subst e18
        show sR s17 0 9 = _
        subst e17; rw [sR_w, if_neg (by omega)]; subst e16; rw [sR_w, if_pos ⟨rfl, rfl⟩]
      · subst e18
        show sR s17 0 10 = _
        subst e17; rw [sR_w, if_pos ⟨rfl, rfl⟩]
      · refine Or.inr ⟨?_, fun f hf i hi b => ?_⟩
        · rw [kp _ _ (by unfold dFo; omega) (by unfold dVy; omega) (by omega)]; exact k5
        · rw [kj _ _ (by unfold dFo; omega) (by unfold dVy; omega)]; exact y5 f hf i hi b
      · exact s5c.2.2.1.fr (fun a i ha => kp a i (by unfold dFo; omega) (by unfold dVy; omega) (by omega))
      · rw [n18 _ _ (by omega), F13.1 _ _ (by unfold dVy; omega)]; exact z10
      · have := p10.fr (s' := s18) (fun a i ha => by rw [n18 a i (by omega), F13.1 a i (by unfold dVy; omega)])
        exact this
      · intro f hf i hi
        rw [n18 _ _ (by omega), n18 _ _ (by omega)]; exact t13 f hf i hi
    · have hn : vAll (mixP (ndB ps S l) l.length l) = none := vef
      rw [hn] at he; exact no_so he
  · refine ⟨fun hz => absurd hz (by decide), fun _ => ?_⟩
    have kp : ∀ a i, ¬ dFo g2 a i → sI s10 a i = sI s5 a i := fun a i h1 => F10.1 a i h1
    refine H2 hb hng hnf s10 ⟨fun a i h _ => ?_, fun a i h => ?_, fun a i h1 h2 h3 => ?_⟩ ?_ ?_ ?_ ?_ ?_
    · unfold dFgT at h
      rw [kp a i (fun hh => h (Or.inr (Or.inl hh)))]
      exact F5.1 a i (fun hh => h (Or.inl hh))
    · unfold dFgT at h
      rw [F10.2.1 a i (fun hh => h (Or.inr (Or.inl hh)))]
      exact F5.2.1 a i (fun hh => h (Or.inl hh))
    · rw [F10.2.2]; exact r5 a i h1
    · rw [kp _ _ (by unfold dFo; omega), F5.1 _ _ (by unfold dSf dFb dFl; omega)]
    · rw [F10.2.2, r5 _ _ (by omega)]; exact h9
    · rw [F10.2.2, r5 _ _ (by omega)]; exact h10
    · refine Or.inr ⟨?_, fun f hf i hi b => ?_⟩
      · rw [kp _ _ (by unfold dFo; omega)]; exact k5
      · rw [F10.2.1 _ _ (by unfold dFo; omega)]; exact y5 f hf i hi b
    · exact s5c.2.2.1.fr (fun a i ha => kp a i (by unfold dFo; omega))
end

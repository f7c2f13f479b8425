/-- the same outside D, and what the first object holds -/
def fr0 (D : Nat → Nat → Prop) (s s' : yS) : Prop := (∀ a i, ¬ D a i → sI s' a i = sI s a i) ∧ (∀ a i, ¬ D a i → sJ s' a i = sJ s a i) ∧ ∀ i, sR s' 0 i = sR s 0 i
section
variable {s s' t : yS} {D E : Nat → Nat → Prop} {g q hi : Nat} {l : List Fn} {ps : PS} {S : List Int32}
theorem frM.f0 (h : frM D s s') : fr0 D s s' := ⟨h.1, h.2.1, fun i => h.2.2 _ _⟩
theorem frS.f0 (h : frS g s s') : fr0 (dSf g) s s' := ⟨h.1, h.2.1, fun i => h.2.2 _ _ (by omega)⟩
theorem fr0.trans (h : fr0 D s t) (k : fr0 D t s') : fr0 D s s' := ⟨fun a i n => (k.1 a i n).trans (h.1 a i n), fun a i n => (k.2.1 a i n).trans (h.2.1 a i n), fun i => (k.2.2 i).trans (h.2.2 i)⟩
theorem fr0.mono (h : fr0 D s s') (k : ∀ a i, D a i → E a i) : fr0 E s s' := ⟨fun a i n => h.1 a i (fun d => n (k a i d)), fun a i n => h.2.1 a i (fun d => n (k a i d)), h.2.2⟩
theorem fr0.sm (h : fr0 D s s') (k : ∀ a i, E a i → ¬ D a i) : sm E s s' := ⟨fun a i e => h.1 a i (k a i e), fun a i e => h.2.1 a i (k a i e)⟩
theorem iS.may (h : sI s 0 hi = 1 ∧ sI s 177 q = 1 ∧ pgC s g l ∧ pgM s q l ∧ pgOK l ∧ vAll l = none ∧ tyD s g l ∧ tpM s q l) (hg : gOK g) (F : fr0 (fun a i => dSf g a i ∨ dMm q a i ∨ dJk a i) s s') (h9 : mkC s' g l ps S) (h10 : mkM s' q l ps S) : iS s' g q hi l ps S := by
  obtain ⟨h1, h2, h3, h4, h5, h6, h7, h8⟩ := h
  have h37 : g = 37 ∨ g = 55 ∨ g = 73 := hg
  refine Or.inr ⟨(F.1 _ _ (by unfold dSf dFb dFl dMm dFr dJk; omega)).trans h1, (F.1 _ _ (by unfold dSf dFb dFl dMm dFr dJk; omega)).trans h2, h3.fr (fun a i ha => F.1 _ _ (by unfold dSf dFb dFl dMm dFr dJk; omega)), h4.fr (fun a i ha => F.1 _ _ (by unfold dSf dFb dFl dMm dFr dJk; omega)), h5, h6, fun f hf i hi => ⟨(F.1 _ _ (by unfold dSf dFb dFl dMm dFr dJk; omega)).trans (h7 f hf i hi).1, (F.1 _ _ (by unfold dSf dFb dFl dMm dFr dJk; omega)).trans (h7 f hf i hi).2⟩, fun f hf i hi => ⟨(F.1 _ _ (by unfold dSf dFb dFl dMm dFr dJk; omega)).trans (h8 f hf i hi).1, (F.1 _ _ (by unfold dSf dFb dFl dMm dFr dJk; omega)).trans (h8 f hf i hi).2⟩, h9, h10⟩
/-- one slot out of two -/
theorem Iv.slot (h : Iv s) (v : Int32) : ∃ (pc g q hi : Nat) (l : List Fn) (ps : PS) (S : List Int32) (an : Nat → Int32) (na : Nat), (q = if v = 0 then 0 else 1) ∧ (hi = if v = 0 then 11 else 12) ∧ (pc = 3 ∨ pc = 20) ∧ sR s 0 6 = pc + 1 ∧ gOK g ∧ (sR s 0 (if v = 0 then 8 else 9) = g + 1) ∧ iS s g q hi l ps S ∧ mkd ps S ∧ plM s ps S ∧ plC s pc ps S ∧ puC s pc ps ∧ ruC s pc (pR ps) ∧ iN s an na
    ∧ (∀ s', (sI s 0 hi = 1 ∧ sI s 177 q = 1 ∧ pgC s g l ∧ pgM s q l ∧ pgOK l ∧ vAll l = none ∧ tyD s g l ∧ tpM s q l) → fr0 (fun a i => dSf g a i ∨ dMm q a i ∨ dJk a i) s s' → mkC s' g l ps S → mkM s' q l ps S → Iv s')
    ∧ (∀ s', fr0 (fun a i => dRun a i ∨ (a = 123 ∧ i = 13) ∨ dRn a i) s s' → iR s' ps S → Iv s')
    ∧ (∀ s', fr0 (fun a i => uW a i ∨ (a = 139 ∧ i = 0)) s s' → ∀ W, iW s' W → Iv s') := by
  obtain ⟨pc, po, gp, gf, gs, B, nb, W, T, nt, ps, S, x, l0, l1, an, na, hA, hK, hB, hW, hF, hP, hH, h0, h1, hR, hN⟩ := id h
  obtain ⟨a1, a2, a3, a4, a5, a6, a7, a8, a9, a10, a11, a12⟩ := id hA
  have hpp : pc = 3 ∨ pc = 20 := by rcases a1 with ⟨e, _⟩ | ⟨e, _⟩ <;> omega
  have hpo := a1
  have h37 : (gp = 37 ∨ gp = 55 ∨ gp = 73) ∧ (gf = 37 ∨ gf = 55 ∨ gf = 73) := ⟨a7, a8⟩
  have run : ∀ s', fr0 (fun a i => dRun a i ∨ (a = 123 ∧ i = 13) ∨ dRn a i) s s' → iR s' ps S → Iv s' := fun s' F r' =>
    ⟨pc, po, gp, gf, gs, B, nb, W, T, nt, ps, S, x, l0, l1, an, na, hA.fr (fun i _ _ => F.2.2 _), hK.fr (F.sm (fun a i h => by unfold uK at h; unfold dRun dRn dRm; omega)), hB.fr (F.sm (fun a i h => by unfold uB at h; unfold dRun dRn dRm; omega)), hW.fr (F.sm (fun a i h => by unfold uW at h; unfold dRun dRn dRm; omega)), hF.fr (F.sm (fun a i h => by unfold uF at h; unfold dRun dRn dRm; omega)), hP.fr (F.sm (fun a i h => by unfold uP at h; unfold dRun dRn dRm; omega)), hH.fr (F.sm (fun a i h => by unfold uH at h; unfold dRun dRn dRm; omega)), h0.fr (F.sm (fun a i h => by unfold uS uG at h; unfold dRun dRn dRm; omega)), h1.fr (F.sm (fun a i h => by unfold uS uG at h; unfold dRun dRn dRm; omega)), r', hN.fr (F.sm (fun a i h => by unfold uN at h; unfold dRun dRn dRm; omega))⟩
  have wri : ∀ s', fr0 (fun a i => uW a i ∨ (a = 139 ∧ i = 0)) s s' → ∀ W, iW s' W → Iv s' := fun s' F W' w' =>
    ⟨pc, po, gp, gf, gs, B, nb, W', T, nt, ps, S, x, l0, l1, an, na, hA.fr (fun i _ _ => F.2.2 _), hK.fr (F.sm (fun a i h => by unfold uK at h; unfold uW; omega)), hB.fr (F.sm (fun a i h => by unfold uB at h; unfold uW; omega)), w', hF.fr (F.sm (fun a i h => by unfold uF at h; unfold uW; omega)), hP.fr (F.sm (fun a i h => by unfold uP at h; unfold uW; omega)), hH.fr (F.sm (fun a i h => by unfold uH at h; unfold uW; omega)), h0.fr (F.sm (fun a i h => by unfold uS uG at h; unfold uW; omega)), h1.fr (F.sm (fun a i h => by unfold uS uG at h; unfold uW; omega)), hR.fr (F.sm (fun a i h => by unfold uR at h; unfold uW; omega)), hN.fr (F.sm (fun a i h => by unfold uN at h; unfold uW; omega))⟩
  by_cases c : v = 0
  · rw [if_pos c, if_pos c, if_pos c]
    refine ⟨pc, gp, 0, 11, l0, ps, S, an, na, rfl, rfl, hpp, a2, a7, a4, h0, hP.2.2.1, hP.2.2.2.1, hP.2.2.2.2.1, hP.2.2.2.2.2.1, hP.2.2.2.2.2.2.1, hN, fun s' hs F k1 k2 => ?_, run, wri⟩
    exact ⟨pc, po, gp, gf, gs, B, nb, W, T, nt, ps, S, x, l0, l1, an, na, hA.fr (fun i _ _ => F.2.2 _), hK.fr (F.sm (fun a i h => by unfold uK at h; unfold dSf dFb dFl dMm dFr dJk; omega)), hB.fr (F.sm (fun a i h => by unfold uB at h; unfold dSf dFb dFl dMm dFr dJk; omega)), hW.fr (F.sm (fun a i h => by unfold uW at h; unfold dSf dFb dFl dMm dFr dJk; omega)), hF.fr (F.sm (fun a i h => by unfold uF at h; unfold dSf dFb dFl dMm dFr dJk; omega)), hP.fr (F.sm (fun a i h => by unfold uP at h; unfold dSf dFb dFl dMm dFr dJk; omega)), hH.fr (F.sm (fun a i h => by unfold uH at h; unfold dSf dFb dFl dMm dFr dJk; omega)), iS.may hs a7 F k1 k2, h1.fr (F.sm (fun a i h => by unfold uS uG at h; unfold dSf dFb dFl dMm dFr dJk; omega)), hR.fr (F.sm (fun a i h => by unfold uR at h; unfold dSf dFb dFl dMm dFr dJk; omega)), hN.fr (F.sm (fun a i h => by unfold uN at h; unfold dSf dFb dFl dMm dFr dJk; omega))⟩
  · rw [if_neg c, if_neg c, if_neg c]
    refine ⟨pc, gf, 1, 12, l1, ps, S, an, na, rfl, rfl, hpp, a2, a8, a5, h1, hP.2.2.1, hP.2.2.2.1, hP.2.2.2.2.1, hP.2.2.2.2.2.1, hP.2.2.2.2.2.2.1, hN, fun s' hs F k1 k2 => ?_, run, wri⟩
    exact ⟨pc, po, gp, gf, gs, B, nb, W, T, nt, ps, S, x, l0, l1, an, na, hA.fr (fun i _ _ => F.2.2 _), hK.fr (F.sm (fun a i h => by unfold uK at h; unfold dSf dFb dFl dMm dFr dJk; omega)), hB.fr (F.sm (fun a i h => by unfold uB at h; unfold dSf dFb dFl dMm dFr dJk; omega)), hW.fr (F.sm (fun a i h => by unfold uW at h; unfold dSf dFb dFl dMm dFr dJk; omega)), hF.fr (F.sm (fun a i h => by unfold uF at h; unfold dSf dFb dFl dMm dFr dJk; omega)), hP.fr (F.sm (fun a i h => by unfold uP at h; unfold dSf dFb dFl dMm dFr dJk; omega)), hH.fr (F.sm (fun a i h => by unfold uH at h; unfold dSf dFb dFl dMm dFr dJk; omega)), h0.fr (F.sm (fun a i h => by unfold uS uG at h; unfold dSf dFb dFl dMm dFr dJk; omega)), iS.may hs a8 F k1 k2, hR.fr (F.sm (fun a i h => by unfold uR at h; unfold dSf dFb dFl dMm dFr dJk; omega)), hN.fr (F.sm (fun a i h => by unfold uN at h; unfold dSf dFb dFl dMm dFr dJk; omega))⟩
theorem c_has {v : Int32} {Q : Int32 → Prop} (hhi : hi = if v = 0 then 11 else 12) (hb : sI s 0 hi = 0 ∨ sI s 0 hi = 1) (H : Q (sI s 0 hi)) : W_X11_has s v Q := by
  unfold W_X11_has
  by_cases c : v = 0
  · rw [if_pos c] at hhi
    subst hhi
    exact ⟨fun _ => ⟨hb, H⟩, fun h => absurd c h⟩
  · rw [if_neg c] at hhi
    subst hhi
    exact ⟨fun h => absurd h c, fun _ => ⟨hb, H⟩⟩
theorem c_pick {v : Int32} {Q : Nat → Prop} (hg : gOK g) (hr : sR s 0 (if v = 0 then 8 else 9) = g + 1) (H : Q g) : W_X11_pick s v Q := by
  unfold W_X11_pick
  by_cases c : v = 0
  · rw [if_pos c] at hr
    exact ⟨fun _ => ⟨g, hr, hg.kd, H⟩, fun h => absurd c h⟩
  · rw [if_neg c] at hr
    exact ⟨fun h => absurd h c, fun _ => ⟨g, hr, hg.kd, H⟩⟩
theorem iS.bb (h : iS s g q hi l ps S) : sI s 0 hi = 0 ∨ sI s 0 hi = 1 := by
  rcases h with h | h
  · exact Or.inl h.1
  · exact Or.inr h.1
/-- the reference's choice of a slot -/
theorem k_sel {v : Int32} {P : Int32 → Prop} (hq : q = if v = 0 then 0 else 1) (H : P (nI q)) : (v = 0 → P 0) ∧ (¬ v = 0 → P 1) := by
  by_cases c : v = 0
  · rw [if_pos c] at hq; subst hq
    exact ⟨fun _ => H, fun h => absurd c h⟩
  · rw [if_neg c] at hq; subst hq
    exact ⟨fun h => absurd h c, fun _ => H⟩
end

section
variable {s : yS}
theorem op_mayOf {v1 v2 v3 : Int32} {Q : Int64 → yS → Prop} (h : Iv s) (H : ∀ r s1, (∀ Q2 : Int64 → yS → Prop, (∀ s2, Iv s2 → Q2 r s2) → W_X12_mayOf s1 v1 v2 v3 Q2) → Q r s1) : W_X11_mayOf s v1 v2 v3 Q := by
  obtain ⟨pc, g, q, hi, l, ps, S, an, na, hq, hhi, hpp, r6, hg, rg, hS, hm, p4, p5, p6, p7, hN, may, _, _⟩ := h.slot v1
  have hq1 : q ≤ 1 := by rw [hq]; split <;> omega
  have h37 : g = 37 ∨ g = 55 ∨ g = 73 := hg
  have hkp : kd pc = some (7, 0) := by rcases hpp with e | e <;> (rw [e]; rfl)
  have hkS : (sI s 177 q = 0) ∨ (sI s 177 q = 1 ∧ pgM s q l ∧ pgOK l) := by
    rcases hS with b | b
    · exact Or.inl b.2.1
    · exact Or.inr ⟨b.2.1, b.2.2.2.1, b.2.2.2.2.1⟩
  unfold W_X11_mayOf
  refine c_hasI hhi hg rg hS (fun hn => ⟨fun hz => absurd rfl hz, fun _ => H _ s (fun Q2 H2 => ?_)⟩) (fun b1 ht => ⟨fun _ => c_pick hg rg ⟨hg.kd, ?_⟩, fun hz => absurd hz (by decide)⟩)
  · unfold W_X12_mayOf
    intro s1 e1
    have i1 : Iv s1 := by subst e1; exact h.z0
    intro P14 hP14
    refine k_sel hq (hP14 _ ?_)
    refine k_isThere (l := l) hq1 ?_ (fun _ => ⟨fun hz => absurd rfl hz, fun _ => H2 _ i1⟩) (fun c1 c2 => ?_)
    · rcases hkS with b | ⟨b1, b2, b3⟩
      · exact Or.inl ((zf e1 _ _ (by omega)).trans b)
      · exact Or.inr ⟨(zf e1 _ _ (by omega)).trans b1, b2.fr (fun a i ha => zf e1 _ _ (by omega)), b3⟩
    · exfalso
      rw [zf e1 _ _ (by omega)] at c1
      rcases hn with hn | hn
      · rcases hS with b | b
        · rw [b.2.1] at c1; exact absurd c1 (by decide)
        · rw [b.1] at hn; exact absurd hn (by decide)
      · exact hn c2
  · rcases hS with b | ⟨_, b2, b3, b4, b5, b6, b7, b8, b9, b10⟩
    · rw [b.1] at b1; exact absurd b1 (by decide)
    obtain ⟨f, i, hf, hil, ef, ei⟩ := id ht
    subst ef; subst ei
    have h12 := b5.2.1
    have h400 := (b5.2.2.1 f hf).2.2.2.2.2.2.2.2.1
    refine ⟨pc, r6, hkp, c_settleK b5 b6 hg hpp b3 p5 b9 (fun s4 F4 k4 m4 => ?_)⟩
    rw [nI_mul, nI_addU, nI_ix (n := f * 400 + i) (by omega)]
    refine ⟨nI_inU (by omega) (by omega), H _ s4 (fun Q2 H2 => ?_)⟩
    have K4 : ∀ a i, 139 ≤ a → sI s4 a i = sI s a i := fun a i ha => F4.1 _ _ (by unfold dSf dFb dFl; omega)
    have J4 : ∀ a i, 139 ≤ a → sJ s4 a i = sJ s a i := fun a i ha => F4.2.1 _ _ (by unfold dSf dFb dFl; omega)
    unfold W_X12_mayOf
    intro s1 e1
    have pm1 : pgM s1 q l := b4.fr (fun a i ha => by rw [zf e1 _ _ (by omega), K4 _ _ (by omega)])
    have pl1 : plM s1 ps S := (p4.fr (fun a i ha => K4 _ _ (by omega)) (fun a i ha => J4 _ _ (by omega)) : plM s4 ps S).z e1
    have mk1 : mkM s1 q l ps S := b10.fr b5 (fun a i ha => by unfold uG at ha; rw [zf e1 _ _ (by omega), K4 _ _ (by omega)]) (fun a i ha => by unfold uG at ha; subst e1; exact J4 _ _ (by omega))
    intro P14 hP14
    refine k_sel hq (hP14 _ ?_)
    refine k_isThere (l := l) hq1 (Or.inr ⟨by rw [zf e1 _ _ (by omega), K4 _ _ (by omega)]; exact b2, pm1, b5⟩) (fun c => ?_) (fun _ _ => ⟨fun _ => ?_, fun hz => absurd hz (by decide)⟩)
    · exfalso
      rcases c with c | c
      · rw [zf e1 _ _ (by omega), K4 _ _ (by omega), b2] at c; exact absurd c (by decide)
      · exact c ht
    refine k_mayK hq1 b5 b6 pm1 pl1 mk1 (fun s10 F10 k10 m10 => ?_)
    have F1 : fr0 (fun a i => dSf g a i ∨ dMm q a i ∨ dJk a i) s s1 := by
      have q4 : fr0 (fun a i => dSf g a i ∨ dMm q a i ∨ dJk a i) s s4 := F4.f0.mono (fun a i h => Or.inl h)
      have q1 : frM (fun a i => a = 139 ∧ i = 0) s4 s1 := by subst e1; exact frM.rfl'.wI ⟨rfl, rfl⟩
      exact q4.trans (q1.f0.mono (fun a i h => Or.inr (Or.inr (Or.inl h))))
    have i10 : Iv s10 := by
      refine may s10 ⟨b1, b2, b3, b4, b5, b6, b7, b8⟩ (F1.trans (F10.f0.mono (fun a i h => Or.inr (Or.inl h)))) (Or.inr ⟨?_, ?_⟩) (Or.inr ⟨k10, m10⟩)
      · rw [F10.1 _ _ (by unfold dMm dFr; omega), zf e1 _ _ (by omega)]; exact k4
      · refine m4.fr (fun i => ?_)
        rw [F10.2.1 _ _ (by unfold dMm dFr; omega)]; subst e1; rfl
    rw [nI_mul, nI_mul, nI_addU, nI_addU, nI_ix (n := 4800 * q + 400 * f + i) (by omega)]
    refine ⟨nI_inU (by omega) (by omega), ?_⟩
    have he : sJ s10 196 (4800 * q + 400 * f + i) = sJ s4 (g + 12) (f * 400 + i) := by
      apply bJ_ext
      intro b _
      have h1 := m10 f hf i hil b
      have h2 := m4 f hf i hil b
      have h3 := h1.trans h2.symm
      cases hx : bJ (sJ s10 196 (4800 * q + 400 * f + i)) b <;> cases hy : bJ (sJ s4 (g + 12) (f * 400 + i)) b <;> simp [hx, hy] at h3 ⊢
    rw [he]; exact H2 _ i10
theorem op_cert {v1 : Int32} {Q : Int32 → yS → Prop} (h : Iv s) (H : ∀ r s1, (∀ Q2 : Int32 → yS → Prop, (∀ s2, Iv s2 → Q2 r s2) → W_X12_certifyIt s1 v1 Q2) → Q r s1) : W_X11_certifyIt s v1 Q := by
  obtain ⟨pc, g, q, hi, l, ps, S, an, na, hq, hhi, hpp, r6, hg, rg, hS, hm, p4, p5, p6, p7, hN, may, _, _⟩ := h.slot v1
  have hq1 : q ≤ 1 := by rw [hq]; split <;> omega
  have h37 : g = 37 ∨ g = 55 ∨ g = 73 := hg
  have hkp : kd pc = some (7, 0) := by rcases hpp with e | e <;> (rw [e]; rfl)
  have inq : vp_in (nI q) 3 := nI_inU (by omega) (by omega)
  unfold W_X11_certifyIt
  refine c_has hhi hS.bb ?_
  rcases hS with ⟨b1, b2, b3⟩ | ⟨b1, b2, b3, b4, b5, b6, b7, b8, b9, b10⟩
  · rw [b1]
    refine ⟨fun hz => absurd rfl hz, fun _ => H _ s (fun Q2 H2 => ?_)⟩
    unfold W_X12_certifyIt
    intro s1 e1
    have i1 : Iv s1 := by subst e1; exact h.z0
    intro P14 hP14
    refine k_sel hq (hP14 _ ?_)
    rw [nI_ix (n := q) (by omega), zf e1 177 _ (by omega), b2]
    exact ⟨inq, fun hz => absurd rfl hz, fun _ => H2 _ i1⟩
  · rw [b1]
    refine ⟨fun _ => c_pick hg rg ⟨hg.kd, pc, r6, hkp, c_settleK b5 b6 hg hpp b3 p5 b9 (fun s4 F4 k4 m4 => ?_)⟩, fun hz => absurd hz (by decide)⟩
    have K4 : ∀ a i, 139 ≤ a → sI s4 a i = sI s a i := fun a i ha => F4.1 _ _ (by unfold dSf dFb dFl; omega)
    have J4 : ∀ a i, 139 ≤ a → sJ s4 a i = sJ s a i := fun a i ha => F4.2.1 _ _ (by unfold dSf dFb dFl; omega)
    have pc4 : pgC s4 g l := b3.fr (fun a i ha => F4.1 _ _ (by unfold dSf dFb dFl; omega))
    have pl4 : plC s4 pc ps S := p5.fr (fun a i ha => F4.1 _ _ (by unfold dSf dFb dFl; omega)) (fun a i ha => F4.2.1 _ _ (by unfold dSf dFb dFl; omega))
    have ru4 : ruC s4 pc (pR ps) := fun c hc => by rw [F4.1 _ _ (by unfold dSf dFb dFl; omega)]; exact p7 c hc
    refine c_cert (Q := Q) b5 hm pc4 hpp ((F4.2.2 _ _ (by omega)).trans r6) pl4 ru4 m4 (H _ s4 (fun Q2 H2 => ?_))
    unfold W_X12_certifyIt
    intro s1 e1
    have pm1 : pgM s1 q l := b4.fr (fun a i ha => by rw [zf e1 _ _ (by omega), K4 _ _ (by omega)])
    have pl1 : plM s1 ps S := (p4.fr (fun a i ha => K4 _ _ (by omega)) (fun a i ha => J4 _ _ (by omega)) : plM s4 ps S).z e1
    have mk1 : mkM s1 q l ps S := b10.fr b5 (fun a i ha => by unfold uG at ha; rw [zf e1 _ _ (by omega), K4 _ _ (by omega)]) (fun a i ha => by unfold uG at ha; subst e1; exact J4 _ _ (by omega))
    intro P14 hP14
    refine k_sel hq (hP14 _ ?_)
    refine ⟨inq, fun _ => ?_, fun hz => ?_⟩
    · refine k_mayK hq1 b5 b6 pm1 pl1 mk1 (fun s10 F10 k10 m10 => ?_)
      have pm10 : pgM s10 q l := pm1.fr (fun a i ha => F10.1 _ _ (by unfold dMm dFr; omega))
      have pl10 : plM s10 ps S := pl1.fr (fun a i ha => F10.1 _ _ (by unfold dMm dFr; omega)) (fun a i ha => F10.2.1 _ _ (by unfold dMm dFr; omega))
      have F1 : fr0 (fun a i => dSf g a i ∨ dMm q a i ∨ dJk a i) s s1 := by
        have q4 : fr0 (fun a i => dSf g a i ∨ dMm q a i ∨ dJk a i) s s4 := F4.f0.mono (fun a i h => Or.inl h)
        have q1 : frM (fun a i => a = 139 ∧ i = 0) s4 s1 := by subst e1; exact frM.rfl'.wI ⟨rfl, rfl⟩
        exact q4.trans (q1.f0.mono (fun a i h => Or.inr (Or.inr (Or.inl h))))
      have i10 : Iv s10 := by
        refine may s10 ⟨b1, b2, b3, b4, b5, b6, b7, b8⟩ (F1.trans (F10.f0.mono (fun a i h => Or.inr (Or.inl h)))) (Or.inr ⟨?_, ?_⟩) (Or.inr ⟨k10, m10⟩)
        · rw [F10.1 _ _ (by unfold dMm dFr; omega), zf e1 _ _ (by omega)]; exact k4
        · refine m4.fr (fun i => ?_)
          rw [F10.2.1 _ _ (by unfold dMm dFr; omega)]; subst e1; rfl
      exact k_cert (Q := Q2) hq1 b5 hm pm10 pl10 m10 (H2 _ i10)
    · exfalso
      rw [nI_ix (n := q) (by omega), zf e1 177 _ (by omega), K4 _ _ (by omega), b2] at hz
      exact absurd hz (by decide)
end

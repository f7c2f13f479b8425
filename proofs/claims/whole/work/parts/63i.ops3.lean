section
variable {s : yS} {g q hi pc : Nat} {l : List Fn} {ps : PS} {S : List Int32}
theorem k_mayK {Q : yS → Prop} (hq : q ≤ 1) (hok : pgOK l) (hva : vAll l = none) (hp : pgM s q l) (hpl : plM s ps S) (hmk : mkM s q l ps S)
    (H : ∀ s', frM (dMm q) s s' → sI s' 200 q = 1 → myM s' q l (RJs ps S) (nn ps S) → Q s') : W_X12_makeMay s (nI q) Q := by
  refine k_makeMay hq hok hva hp hpl.po (fun hne => ?_) (fun h0 s' F' k' m' => H s' F' k' m')
  rcases hmk with h | ⟨h1, h2⟩
  · exact absurd h hne
  · exact H s frM.rfl' h1 h2
/-- both have settled -/
theorem op_codeOf {v1 v2 v3 v4 : Int32} {Q : Int32 → yS → Prop} (h : Iv s) (H : ∀ r s1, (∀ Q2 : Int32 → yS → Prop, (∀ s2, Iv s2 → Q2 r s2) → W_X12_codeOf s1 v1 v2 v3 v4 Q2) → Q r s1) : W_X11_codeOf s v1 v2 v3 v4 Q := by
  obtain ⟨pc, g, q, hi, l, ps, S, an, na, hq, hhi, hpp, r6, hg, rg, hS, hm, p4, p5, p6, p7, hN, may, _, _⟩ := h.slot v1
  have hq1 : q ≤ 1 := by rw [hq]; split <;> omega
  have h37 : g = 37 ∨ g = 55 ∨ g = 73 := hg
  have hkp : kd pc = some (7, 0) := by rcases hpp with e | e <;> (rw [e]; rfl)
  have hkS : (sI s 177 q = 0) ∨ (sI s 177 q = 1 ∧ pgM s q l ∧ pgOK l) := by
    rcases hS with b | b
    · exact Or.inl b.2.1
    · exact Or.inr ⟨b.2.1, b.2.2.2.1, b.2.2.2.2.1⟩
  unfold W_X11_codeOf
  refine c_hasI hhi hg rg hS (fun hn => ⟨fun hz => absurd rfl hz, fun _ => H _ s (fun Q2 H2 => ?_)⟩) (fun b1 ht => ⟨fun _ => c_pick hg rg ⟨hg.kd, ?_⟩, fun hz => absurd hz (by decide)⟩)
  · unfold W_X12_codeOf
    intro s1 e1
    have i1 : Iv s1 := by subst e1; exact h.z0
    intro P14 hP14
    refine k_sel hq (hP14 _ ?_)
    refine k_isThere (l := l) hq1 ?_ (fun _ => ⟨fun hz => absurd rfl hz, fun _ => H2 _ i1⟩) (fun c1 c2 => ?_)
    · rcases hkS with b | ⟨b1, b2, b3⟩
      · exact Or.inl ((zf e1 _ _ (by omega)).trans b)
      · exact Or.inr ⟨(zf e1 _ _ (by omega)).trans b1, b2.fr (fun a i ha => zf e1 _ _ (by omega)), b3⟩
    · exfalso
      rw [zf e1 _ _ (by omega)] at c1
      rcases hn with hn | hn
      · rcases hS with b | b
        · rw [b.2.1] at c1; exact absurd c1 (by decide)
        · rw [b.1] at hn; exact absurd hn (by decide)
      · exact hn c2
  · rcases hS with b | ⟨_, b2, b3, b4, b5, b6, b7, b8, b9, b10⟩
    · rw [b.1] at b1; exact absurd b1 (by decide)
    obtain ⟨f, i, hf, hil, ef, ei⟩ := id ht
    subst ef; subst ei
    have h12 := b5.2.1
    have h400 := (b5.2.2.1 f hf).2.2.2.2.2.2.2.2.1
    rw [nI_mul, nI_addU]
    intro x3 e3
    subst e3
    have in48 : vp_in (nI (f * 400 + i)) 4800 := nI_inU (by omega) (by omega)
    have in144 : vp_in (nI (4800 * q + 400 * f + i)) 14400 := nI_inU (by omega) (by omega)
    have co := (b3.2 f hf).2.2.2.2.2.2.1 i hil
    have mo := (b4.2 f hf).2.2.2.2.2.2.1 i hil
    have ty := b7 f hf i (by omega)
    have tm := b8 f hf i (by omega)
    rw [nI_ix (n := f * 400 + i) (by omega), co.1, co.2, ty.1, ty.2]
    -- the reference, where it does not settle
    have key : ∀ r, (v4.toInt < 0 ∨ 5 < v4.toInt → r = 0) → (v4.toInt = 0 → r = nI (fC l[f])[i].1) → (v4.toInt = 1 → r = (fC l[f])[i].2) → (v4.toInt = 2 → r = dI (vTy l f i)) → (v4.toInt = 3 → r = tI (vTy l f i)) → (v4.toInt = 4 → r = bI (gdd l[f] i)) → ¬ v4.toInt = 5 → Q r s := by
      intro r k0 k1 k2 k3 k4 k5 k6
      refine H r s (fun Q2 H2 => ?_)
      unfold W_X12_codeOf
      intro s1 e1
      have i1 : Iv s1 := by subst e1; exact h.z0
      have go : ∀ y, r = y → Q2 y s1 := fun y hy => by rw [← hy]; exact H2 _ i1
      have pm1 : pgM s1 q l := b4.fr (fun a i ha => zf e1 _ _ (by omega))
      intro P14 hP14
      refine k_sel hq (hP14 _ ?_)
      refine k_isThere (l := l) hq1 (Or.inr ⟨(zf e1 _ _ (by omega)).trans b2, pm1, b5⟩) (fun c => ?_) (fun _ _ => ⟨fun _ => ?_, fun hz => absurd hz (by decide)⟩)
      · exfalso
        rcases c with c | c
        · rw [zf e1 _ _ (by omega), b2] at c; exact absurd c (by decide)
        · exact c ht
      rw [nI_mul, nI_mul, nI_addU, nI_addU]
      intro x4 e4
      subst e4
      rw [nI_ix (n := 4800 * q + 400 * f + i) (by omega), zf e1 186 _ (by omega), mo.1, zf e1 187 _ (by omega), mo.2, zf e1 193 _ (by omega), tm.1, zf e1 194 _ (by omega), tm.2]
      refine ⟨fun c => go _ (k0 c), fun c => ⟨in144, go _ (k1 c)⟩, fun c => ⟨in144, go _ (k2 c)⟩, fun c => ⟨in144, go _ (k3 c)⟩, fun c => ⟨in144, go _ (k4 c)⟩, fun c => k_isGuarded (by omega) b5 pm1 hf hil ?_, fun c => absurd c k6⟩
      have := k5 c
      cases hgd : gdd l[f] i with
      | true => rw [hgd] at this; exact ⟨fun hz => absurd hz (by decide), fun _ => go _ this⟩
      | false => rw [hgd] at this; exact ⟨fun _ => go _ this, fun hz => absurd rfl hz⟩
    refine ⟨fun c => key _ (fun _ => rfl) ?_ ?_ ?_ ?_ ?_ (by omega), fun c => ⟨in48, key _ ?_ (fun _ => rfl) ?_ ?_ ?_ ?_ (by omega)⟩, fun c => ⟨in48, key _ ?_ ?_ (fun _ => rfl) ?_ ?_ ?_ (by omega)⟩, fun c => ⟨in48, key _ ?_ ?_ ?_ (fun _ => rfl) ?_ ?_ (by omega)⟩, fun c => ⟨in48, key _ ?_ ?_ ?_ ?_ (fun _ => rfl) ?_ (by omega)⟩, fun c => c_isGuarded b5 b3 hf hil ?_, fun c => ⟨pc, r6, hkp, c_settleK b5 b6 hg hpp b3 p5 b9 (fun s4 F4 k4 m4 => ?_)⟩⟩
    iterate 25 (first | (intro c'; exfalso; omega) | skip)
    · have k5 : ∀ r, r = bI (gdd l[f] i) → Q r s := fun r hr => key r (fun c' => by omega) (fun c' => by omega) (fun c' => by omega) (fun c' => by omega) (fun c' => by omega) (fun _ => hr) (by omega)
      cases hgd : gdd l[f] i with
      | true => rw [hgd] at k5; exact ⟨fun hz => absurd hz (by decide), fun _ => k5 _ rfl⟩
      | false => rw [hgd] at k5; exact ⟨fun _ => k5 _ rfl, fun hz => absurd rfl hz⟩
    · have K4 : ∀ a i, 139 ≤ a → sI s4 a i = sI s a i := fun a i ha => F4.1 _ _ (by unfold dSf dFb dFl; omega)
      have J4 : ∀ a i, 139 ≤ a → sJ s4 a i = sJ s a i := fun a i ha => F4.2.1 _ _ (by unfold dSf dFb dFl; omega)
      have pc4 : pgC s4 g l := b3.fr (fun a i ha => F4.1 _ _ (by unfold dSf dFb dFl; omega))
      have pl4 : plC s4 pc ps S := p5.fr (fun a i ha => F4.1 _ _ (by unfold dSf dFb dFl; omega)) (fun a i ha => F4.2.1 _ _ (by unfold dSf dFb dFl; omega))
      have ru4 : ruC s4 pc (pR ps) := fun c hc => by rw [F4.1 _ _ (by unfold dSf dFb dFl; omega)]; exact p7 c hc
      refine ⟨pc, (F4.2.2 _ _ (by omega)).trans r6, hkp, c_needs b5 hm pc4 pl4 ru4 m4 hf hil (fun r hr => ?_)⟩
      have fin : Q (bI r) s4 := by
        refine H _ s4 (fun Q2 H2 => ?_)
        unfold W_X12_codeOf
        intro s1 e1
        have pm1 : pgM s1 q l := b4.fr (fun a i ha => by rw [zf e1 _ _ (by omega), K4 _ _ (by omega)])
        have pl1 : plM s1 ps S := (p4.fr (fun a i ha => K4 _ _ (by omega)) (fun a i ha => J4 _ _ (by omega)) : plM s4 ps S).z e1
        have mk1 : mkM s1 q l ps S := b10.fr b5 (fun a i ha => by unfold uG at ha; rw [zf e1 _ _ (by omega), K4 _ _ (by omega)]) (fun a i ha => by unfold uG at ha; subst e1; exact J4 _ _ (by omega))
        intro P14 hP14
        refine k_sel hq (hP14 _ ?_)
        refine k_isThere (l := l) hq1 (Or.inr ⟨by rw [zf e1 _ _ (by omega), K4 _ _ (by omega)]; exact b2, pm1, b5⟩) (fun c => ?_) (fun _ _ => ⟨fun _ => ?_, fun hz => absurd hz (by decide)⟩)
        · exfalso
          rcases c with c | c
          · rw [zf e1 _ _ (by omega), K4 _ _ (by omega), b2] at c; exact absurd c (by decide)
          · exact c ht
        intro x4 e4
        refine ⟨fun c' => by omega, fun c' => by omega, fun c' => by omega, fun c' => by omega, fun c' => by omega, fun c' => by omega, fun _ => ?_⟩
        refine k_mayK hq1 b5 b6 pm1 pl1 mk1 (fun s10 F10 k10 m10 => ?_)
        have pm10 : pgM s10 q l := pm1.fr (fun a i ha => F10.1 _ _ (by unfold dMm dFr; omega))
        have pl10 : plM s10 ps S := pl1.fr (fun a i ha => F10.1 _ _ (by unfold dMm dFr; omega)) (fun a i ha => F10.2.1 _ _ (by unfold dMm dFr; omega))
        have F1 : fr0 (fun a i => dSf g a i ∨ dMm q a i ∨ dJk a i) s s1 := by
          have q4 : fr0 (fun a i => dSf g a i ∨ dMm q a i ∨ dJk a i) s s4 := F4.f0.mono (fun a i h => Or.inl h)
          have q1 : frM (fun a i => a = 139 ∧ i = 0) s4 s1 := by subst e1; exact frM.rfl'.wI ⟨rfl, rfl⟩
          exact q4.trans (q1.f0.mono (fun a i h => Or.inr (Or.inr (Or.inl h))))
        have i10 : Iv s10 := by
          refine may s10 ⟨b1, b2, b3, b4, b5, b6, b7, b8⟩ (F1.trans (F10.f0.mono (fun a i h => Or.inr (Or.inl h)))) (Or.inr ⟨?_, ?_⟩) (Or.inr ⟨k10, m10⟩)
          · rw [F10.1 _ _ (by unfold dMm dFr; omega), zf e1 _ _ (by omega)]; exact k4
          · refine m4.fr (fun i => ?_)
            rw [F10.2.1 _ _ (by unfold dMm dFr; omega)]; subst e1; rfl
        refine k_needs hq1 b5 hm pm10 pl10 m10 hf hil (fun r2 hr2 => ?_)
        have : r2 = r := by
          have := hr2.trans hr.symm
          cases r <;> cases r2 <;> simp at this ⊢
        subst this
        cases r2 with
        | true => exact ⟨fun hz => absurd hz (by decide), fun _ => H2 _ i10⟩
        | false => exact ⟨fun _ => H2 _ i10, fun hz => absurd rfl hz⟩
      cases r with
      | true => exact ⟨fun hz => absurd hz (by decide), fun _ => fin⟩
      | false => exact ⟨fun _ => fin, fun hz => absurd rfl hz⟩
end

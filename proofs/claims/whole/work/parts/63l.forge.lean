section
variable {s s' : yS}
set_option maxHeartbeats 8000000 in
theorem op_forge {Q : Int32 → yS → Prop} (h : Iv s) (H : ∀ r s1, (∀ Q2 : Int32 → yS → Prop, (∀ s2, Iv s2 → Q2 r s2) → W_X12_forgeIt s1 Q2) → Q r s1) : W_X11_forgeIt s Q := by
  obtain ⟨pc, po, gp, gf, gs, B, nb, W, T, nt, ps, S, x, l0, l1, an, na, hA, hK, hB, hW, hF, hP, hH, h0, h1, hR, hN⟩ := id h
  obtain ⟨a1, a2, a3, a4, a5, a6, a7, a8, a9, a10, a11, a12⟩ := id hA
  have h37 : (gp = 37 ∨ gp = 55 ∨ gp = 73) ∧ (gf = 37 ∨ gf = 55 ∨ gf = 73) ∧ (gs = 37 ∨ gs = 55 ∨ gs = 73) := ⟨a7, a8, a9⟩
  have hpp : pc = 3 ∨ pc = 20 := by rcases a1 with ⟨e, _⟩ | ⟨e, _⟩ <;> omega
  obtain ⟨_, _, hm, p4, p5, p6, p7, _, _⟩ := id hP
  -- nothing was loaded, or it has guards: the reference has settled at most
  have stay : ∀ {g3 : Nat} {s1 s2 : yS}, fr0 (fun a i => dFgT gp gs a i) s s1 → frM dFt0 s1 s2 → (sI s 0 11 = 1 → mkC s gp l0 ps S → mkC s1 gp l0 ps S) → (sI s 0 11 = 1 → mkM s2 0 l0 ps S) → Iv s2 := by
    intro g3 s1 s2 F1 F2 k1 k2
    have CI : ∀ a i, a < 139 → sI s2 a i = sI s1 a i := fun a i ha => F2.1 _ _ (by unfold dFt0 dMm dFr; omega)
    have CJ : ∀ a i, a < 139 → sJ s2 a i = sJ s1 a i := fun a i ha => F2.2.1 _ _ (by unfold dFt0 dMm dFr; omega)
    have F : fr0 (fun a i => dFgT gp gs a i ∨ dFt0 a i) s s2 := (F1.mono (fun a i h => Or.inl h)).trans (F2.f0.mono (fun a i h => Or.inr h))
    have G : ∀ {E : Nat → Nat → Prop}, (∀ a i, E a i → (a < 139 → ¬ dFgT gp gs a i) ∧ (139 ≤ a → ¬ dFt0 a i)) → sm E s s2 := fun {E} hE => by
      refine F.sm (fun a i he hd => ?_)
      rcases hd with hd | hd
      · by_cases c : a < 139
        · exact (hE a i he).1 c hd
        · unfold dFgT dSf dFb dFl dFo dVy at hd; omega
      · by_cases c : a < 139
        · unfold dFt0 dMm dFr at hd; omega
        · exact (hE a i he).2 (by omega) hd
    refine ⟨pc, po, gp, gf, gs, B, nb, W, T, nt, ps, S, x, l0, l1, an, na, hA.fr (fun i _ _ => F.2.2 _), ?_, ?_, ?_, ?_, ?_, ?_, ?_, ?_, ?_, ?_⟩
    · exact hK.fr (G (fun a i h => ⟨fun _ => by unfold uK at h; unfold dFgT dSf dFb dFl dFo dVy; omega, fun _ => by unfold uK at h; unfold dFt0 dMm dFr; omega⟩))
    · exact hB.fr (G (fun a i h => ⟨fun _ => by unfold uB at h; unfold dFgT dSf dFb dFl dFo dVy; omega, fun _ => by unfold uB at h; unfold dFt0 dMm dFr; omega⟩))
    · exact hW.fr (G (fun a i h => ⟨fun _ => by unfold uW at h; unfold dFgT dSf dFb dFl dFo dVy; omega, fun _ => by unfold uW at h; unfold dFt0 dMm dFr; omega⟩))
    · exact hF.fr (G (fun a i h => ⟨fun _ => by unfold uF at h; unfold dFgT dSf dFb dFl dFo dVy; omega, fun _ => by unfold uF at h; unfold dFt0 dMm dFr; omega⟩))
    · exact hP.fr (G (fun a i h => ⟨fun _ => by unfold uP at h; unfold dFgT dSf dFb dFl dFo dVy; omega, fun _ => by unfold uP at h; unfold dFt0 dMm dFr; omega⟩))
    · exact hH.fr (G (fun a i h => ⟨fun _ => by unfold uH at h; unfold dFgT dSf dFb dFl dFo dVy; omega, fun _ => by unfold uH at h; unfold dFt0 dMm dFr; omega⟩))
    · refine h0.re (fun a i h => (G (E := uT gp 0 11) (fun a i h => ⟨fun _ => by unfold uT at h; unfold dFgT dSf dFb dFl dFo dVy; omega, fun _ => by unfold uT at h; unfold dFt0 dMm dFr; omega⟩)).1 a i h) (fun c m => (k1 c m).fr (fun a i u1 u2 => CI _ _ (by omega)) (fun i => CJ _ _ (by omega))) (fun c _ _ => k2 c)
    · exact h1.fr (G (fun a i h => ⟨fun _ => by unfold uS uG at h; unfold dFgT dSf dFb dFl dFo dVy; omega, fun _ => by unfold uS uG at h; unfold dFt0 dMm dFr; omega⟩))
    · exact hR.fr (G (fun a i h => ⟨fun _ => by unfold uR at h; unfold dFgT dSf dFb dFl dFo dVy; omega, fun _ => by unfold uR at h; unfold dFt0 dMm dFr; omega⟩))
    · exact hN.fr (G (fun a i h => ⟨fun _ => by unfold uN at h; unfold dFgT dSf dFb dFl dFo dVy; omega, fun _ => by unfold uN at h; unfold dFt0 dMm dFr; omega⟩))
  have id0 : fr0 (fun a i => dFgT gp gs a i) s s := ⟨fun _ _ _ => rfl, fun _ _ _ => rfl, fun _ => rfl⟩
  have hbC : (sI s 0 11) = 0 ∨ (sI s 0 11) = 1 ∧ (sR s 0 8) = gp + 1 ∧ gOK gp ∧ pgC s gp l0 ∧ pgOK l0 ∧ vAll l0 = none ∧ mkC s gp l0 ps S := by
    rcases h0 with b | ⟨b1, b2, b3, b4, b5, b6, b7, b8, b9, b10⟩
    · exact Or.inl b.1
    · exact Or.inr ⟨b1, a4, a7, b3, b5, b6, b9⟩
  have hbM : (sI s 177) 0 = 0 ∨ (sI s 177) 0 = 1 ∧ pgM s 0 l0 ∧ pgOK l0 ∧ vAll l0 = none ∧ mkM s 0 l0 ps S := by
    rcases h0 with b | ⟨b1, b2, b3, b4, b5, b6, b7, b8, b9, b10⟩
    · exact Or.inl b.2.1
    · exact Or.inr ⟨b2, b4, b5, b6, b10⟩
  have hsame : (sI s 0 11 = 0 ∧ sI s 177 0 = 0) ∨ (sI s 0 11 = 1 ∧ sI s 177 0 = 1) := by
    rcases h0 with b | b
    · exact Or.inl ⟨b.1, b.2.1⟩
    · exact Or.inr ⟨b.1, b.2.1⟩
  have n01 : ∀ {x : Int32}, x = 0 → x = 1 → False := fun h1 h2 => by rw [h1] at h2; exact absurd h2 (by decide)
  refine c_forgeIt hbC hpp a2 hm p5 p7 a9 a8 a11 a5 a6 (fun c0 => H _ s (fun Q2 H2 => ?_)) (fun c1 hg => H _ s (fun Q2 H2 => ?_)) (fun c1 hng hnf s1 F1 f12 f9 f10 mk1 pg1 => H _ s1 (fun Q2 H2 => ?_)) (fun c1 hng hfit s1 F1 f12 f9 f10 mk1 pg1 m13 pg2 ty2 => H _ s1 (fun Q2 H2 => ?_))
  · refine k_forgeIt hbM hm p4 (fun _ s' F' _ _ => H2 _ (stay (g3 := 0) id0 F' (fun _ m => m) (fun c => (n01 c0 c).elim))) (fun d1 => ?_) (fun d1 => ?_) (fun d1 => ?_)
    all_goals (exfalso; rcases hsame with ⟨u1, u2⟩ | ⟨u1, u2⟩; exact n01 u2 d1; exact n01 c0 u1)
  · refine k_forgeIt hbM hm p4 (fun d0 => ?_) (fun _ _ s' F' k' => H2 _ (stay (g3 := 0) id0 F' (fun _ m => m) (fun _ => k'))) (fun _ hng => absurd hg hng) (fun _ hng => absurd hg hng)
    exfalso; rcases hsame with ⟨u1, u2⟩ | ⟨u1, u2⟩; exact n01 u1 c1; exact n01 d0 u2
  · have KI : ∀ a i, 139 ≤ a → sI s1 a i = sI s a i := fun a i ha => F1.1 a i (by unfold dFgT dSf dFb dFl dFo dVy; omega) (by omega)
    have KJ : ∀ a i, 139 ≤ a → sJ s1 a i = sJ s a i := fun a i ha => F1.2.1 a i (by unfold dFgT dSf dFb dFl dFo dVy; omega)
    have f1 : fr0 (fun a i => dFgT gp gs a i) s s1 := by
      refine ⟨fun a i hn => ?_, F1.2.1, fun i => ?_⟩
      · by_cases c : a = 0 ∧ i = 12
        · obtain ⟨rfl, rfl⟩ := c; exact f12
        · exact F1.1 a i hn c
      · by_cases c9 : i = 9
        · subst c9; exact f9.trans a5.symm
        · by_cases c10 : i = 10
          · subst c10; exact f10.trans a6.symm
          · exact F1.2.2 _ _ (by omega) (by omega) (by omega)
    have hb1 : (sI s1 177) 0 = 0 ∨ (sI s1 177) 0 = 1 ∧ pgM s1 0 l0 ∧ pgOK l0 ∧ vAll l0 = none ∧ mkM s1 0 l0 ps S := by
      rcases hbM with b | ⟨b1, b2, b3, b4, b5⟩
      · exact Or.inl ((KI _ _ (by omega)).trans b)
      · exact Or.inr ⟨(KI _ _ (by omega)).trans b1, b2.fr (fun a i ha => KI _ _ (by omega)), b3, b4, b5.fr b3 (fun a i ha => KI _ _ (by unfold uG at ha; omega)) (fun a i ha => KJ _ _ (by unfold uG at ha; omega))⟩
    refine k_forgeIt hb1 hm (p4.fr (fun a i ha => KI _ _ (by omega)) (fun a i ha => KJ _ _ (by omega))) (fun d0 => ?_) (fun _ hg => absurd hg hng) (fun _ _ _ s' F' k' => H2 _ (stay (g3 := 0) f1 F' (fun _ _ => mk1) (fun _ => k'))) (fun _ _ hfit => absurd hfit hnf)
    exfalso
    rw [KI _ _ (by omega)] at d0
    rcases hsame with ⟨u1, u2⟩ | ⟨u1, u2⟩; exact n01 u1 c1; exact n01 d0 u2
  · have KI : ∀ a i, 139 ≤ a → sI s1 a i = sI s a i := fun a i ha => F1.1 a i (by unfold dFgT dSf dFb dFl dFo dVy; omega) (by omega)
    have KJ : ∀ a i, 139 ≤ a → sJ s1 a i = sJ s a i := fun a i ha => F1.2.1 a i (by unfold dFgT dSf dFb dFl dFo dVy; omega)
    have hb1 : (sI s1 177) 0 = 0 ∨ (sI s1 177) 0 = 1 ∧ pgM s1 0 l0 ∧ pgOK l0 ∧ vAll l0 = none ∧ mkM s1 0 l0 ps S := by
      rcases hbM with b | ⟨b1, b2, b3, b4, b5⟩
      · exact Or.inl ((KI _ _ (by omega)).trans b)
      · exact Or.inr ⟨(KI _ _ (by omega)).trans b1, b2.fr (fun a i ha => KI _ _ (by omega)), b3, b4, b5.fr b3 (fun a i ha => KI _ _ (by unfold uG at ha; omega)) (fun a i ha => KJ _ _ (by unfold uG at ha; omega))⟩
    refine k_forgeIt hb1 hm (p4.fr (fun a i ha => KI _ _ (by omega)) (fun a i ha => KJ _ _ (by omega))) (fun d0 => ?_) (fun _ hg => absurd hg hng) (fun _ _ hnf => absurd hfit hnf) (fun _ _ _ s2 F2 k' g1 g2 pgm2 tp2 => ?_)
    · exfalso
      rw [KI _ _ (by omega)] at d0
      rcases hsame with ⟨u1, u2⟩ | ⟨u1, u2⟩; exact n01 u1 c1; exact n01 d0 u2
    · obtain ⟨b5, b6⟩ : pgOK l0 ∧ vAll l0 = none := by
        rcases hbC with b | b
        · exact (n01 b c1).elim
        · exact ⟨b.2.2.2.2.1, b.2.2.2.2.2.1⟩
      have CI : ∀ a i, a < 139 → sI s2 a i = sI s1 a i := fun a i ha => F2.1 _ _ (by unfold dFt dMm dFr dCp; omega)
      have CJ : ∀ a i, a < 139 → sJ s2 a i = sJ s1 a i := fun a i ha => F2.2.1 _ _ (by unfold dFt dMm dFr dCp; omega)
      have CR : ∀ i, sR s2 0 i = sR s1 0 i := fun i => F2.2.2 _ _
      have G : ∀ {E : Nat → Nat → Prop}, (∀ a i, E a i → (a < 139 → ¬ dFgT gp gs a i ∧ ¬ (a = 0 ∧ i = 12)) ∧ (139 ≤ a → ¬ dFt a i)) → sm E s s2 := fun {E} hE => by
        refine ⟨fun a i he => ?_, fun a i he => ?_⟩
        · by_cases c : a < 139
          · obtain ⟨u1, u2⟩ := (hE a i he).1 c
            rw [CI a i c]; exact F1.1 a i u1 u2
          · rw [F2.1 a i ((hE a i he).2 (by omega))]; exact KI a i (by omega)
        · by_cases c : a < 139
          · rw [CJ a i c]; exact F1.2.1 a i ((hE a i he).1 c).1
          · rw [F2.2.1 a i ((hE a i he).2 (by omega))]; exact KJ a i (by omega)
      refine H2 _ ⟨pc, po, gp, gs, gf, B, nb, W, T, nt, ps, S, x, l0, frg ps S l0, an, na, ?_, ?_, ?_, ?_, ?_, ?_, ?_, ?_, ?_, ?_, ?_⟩
      · exact ⟨a1, by rw [CR, F1.2.2 _ _ (by omega) (by omega) (by omega)]; exact a2, by rw [CR, F1.2.2 _ _ (by omega) (by omega) (by omega)]; exact a3, by rw [CR, F1.2.2 _ _ (by omega) (by omega) (by omega)]; exact a4, by rw [CR]; exact f9, by rw [CR]; exact f10, a7, a9, a8, a11, a10, Ne.symm a12⟩
      · exact hK.fr (G (fun a i h => ⟨fun _ => by unfold uK at h; unfold dFgT dSf dFb dFl dFo dVy; omega, fun _ => by unfold uK at h; unfold dFt dMm dFr dCp; omega⟩))
      · exact hB.fr (G (fun a i h => ⟨fun _ => by unfold uB at h; unfold dFgT dSf dFb dFl dFo dVy; omega, fun _ => by unfold uB at h; unfold dFt dMm dFr dCp; omega⟩))
      · exact hW.fr (G (fun a i h => ⟨fun _ => by unfold uW at h; unfold dFgT dSf dFb dFl dFo dVy; omega, fun _ => by unfold uW at h; unfold dFt dMm dFr dCp; omega⟩))
      · exact hF.fr (G (fun a i h => ⟨fun _ => by unfold uF at h; unfold dFgT dSf dFb dFl dFo dVy; omega, fun _ => by unfold uF at h; unfold dFt dMm dFr dCp; omega⟩))
      · exact hP.fr (G (fun a i h => ⟨fun _ => by unfold uP at h; unfold dFgT dSf dFb dFl dFo dVy; omega, fun _ => by unfold uP at h; unfold dFt dMm dFr dCp; omega⟩))
      · exact hH.fr (G (fun a i h => ⟨fun _ => by unfold uH at h; unfold dFgT dSf dFb dFl dFo dVy; omega, fun _ => by unfold uH at h; unfold dFt dMm dFr dCp; omega⟩))
      · refine h0.re (fun a i h => (G (E := uT gp 0 11) (fun a i h => ⟨fun _ => by unfold uT at h; unfold dFgT dSf dFb dFl dFo dVy; omega, fun _ => by unfold uT at h; unfold dFt dMm dFr dCp; omega⟩)).1 a i h) (fun _ _ => mk1.fr (fun a i u1 u2 => CI _ _ (by omega)) (fun i => CJ _ _ (by omega))) (fun _ _ _ => k')
      · exact Or.inr ⟨(CI _ _ (by omega)).trans f12, g1, pg2.fr (fun a i ha => CI _ _ (by omega)), pgm2, frg_ok b5 hfit, frg_ver b5 b6 hfit, ty2.fr (fun a i _ _ => CI _ _ (by omega)), tp2, Or.inl ((CI _ _ (by omega)).trans m13), Or.inl g2⟩
      · exact hR.fr (G (fun a i h => ⟨fun _ => by unfold uR at h; unfold dFgT dSf dFb dFl dFo dVy; omega, fun _ => by unfold uR at h; unfold dFt dMm dFr dCp; omega⟩))
      · exact hN.fr (G (fun a i h => ⟨fun _ => by unfold uN at h; unfold dFgT dSf dFb dFl dFo dVy; omega, fun _ => by unfold uN at h; unfold dFt dMm dFr dCp; omega⟩))
end

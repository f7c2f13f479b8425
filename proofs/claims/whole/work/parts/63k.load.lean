theorem ldP_va {B : Nat → Nat} {nb : Nat} {l : List Fn} (h : ldP B nb = .ok l) : vAll l = none := by
  unfold ldP at h
  split at h
  · exact er_ok h
  · split at h
    · exact er_ok h
    · rename_i hv
      have := Except.ok.inj h
      subst this; exact hv
def uT (g q hi a i : Nat) : Prop := (a = 0 ∧ i = hi) ∨ (a = g ∧ i = 0) ∨ (g + 1 ≤ a ∧ a ≤ g + 11) ∨ (g + 13 ≤ a ∧ a ≤ g + 17) ∨ ((a = 177 ∨ a = 178) ∧ i = q) ∨ ((a = 179 ∨ a = 180 ∨ a = 181 ∨ a = 182 ∨ a = 184 ∨ a = 185) ∧ 12 * q ≤ i ∧ i < 12 * q + 12) ∨ ((a = 186 ∨ a = 187 ∨ a = 193 ∨ a = 194) ∧ 4800 * q ≤ i ∧ i < 4800 * q + 4800) ∨ (188 ≤ a ∧ a ≤ 192 ∧ 72 * q ≤ i ∧ i < 72 * q + 72)
section
variable {s s' : yS} {g q hi : Nat} {l : List Fn} {ps ps' : PS} {S S' : List Int32}
set_option maxHeartbeats 8000000 in
theorem pgM.frt (hok : pgOK l) (h : pgM s q l) (F : ∀ a i, uT g q hi a i → sI s' a i = sI s a i) : pgM s' q l := by
  have h12 := hok.2.1
  refine ⟨(F _ _ (by unfold uT; omega)).trans h.1, fun f hf => ?_⟩
  have h400 := (hok.2.2.1 f hf).2.2.2.2.2.2.2.2.1
  have h6 := (hok.2.2.1 f hf).2.2.2.2.2.2.2.2.2.1
  obtain ⟨h1, h2, h3, h4, h5, h6', h7, h8⟩ := h.2 f hf
  refine ⟨(F _ _ (by unfold uT; omega)).trans h1, (F _ _ (by unfold uT; omega)).trans h2, (F _ _ (by unfold uT; omega)).trans h3, (F _ _ (by unfold uT; omega)).trans h4, (F _ _ (by unfold uT; omega)).trans h5, (F _ _ (by unfold uT; omega)).trans h6', fun i hi => ⟨(F _ _ (by unfold uT; omega)).trans (h7 i hi).1, (F _ _ (by unfold uT; omega)).trans (h7 i hi).2⟩, fun i hi => ?_⟩
  obtain ⟨k1, k2, k3, k4, k5⟩ := h8 i hi
  exact ⟨(F _ _ (by unfold uT; omega)).trans k1, (F _ _ (by unfold uT; omega)).trans k2, (F _ _ (by unfold uT; omega)).trans k3, (F _ _ (by unfold uT; omega)).trans k4, (F _ _ (by unfold uT; omega)).trans k5⟩
set_option maxHeartbeats 8000000 in
/-- all of a slot but what may be -/
theorem iS.re (h : iS s g q hi l ps S) (F : ∀ a i, uT g q hi a i → sI s' a i = sI s a i) (k1 : sI s 0 hi = 1 → mkC s g l ps S → mkC s' g l ps' S') (k2 : sI s 0 hi = 1 → pgOK l → mkM s q l ps S → mkM s' q l ps' S') : iS s' g q hi l ps' S' := by
  rcases h with ⟨h1, h2, n, h3, h4⟩ | ⟨h1, h2, h3, h4, h5, h6, h7, h8, h9, h10⟩
  · exact Or.inl ⟨(F _ _ (by unfold uT; omega)).trans h1, (F _ _ (by unfold uT; omega)).trans h2, n, h3, (F _ _ (by unfold uT; omega)).trans h4⟩
  · have h12 := h5.2.1
    exact Or.inr ⟨(F _ _ (by unfold uT; omega)).trans h1, (F _ _ (by unfold uT; omega)).trans h2, h3.fr (fun a i ha => F _ _ (by unfold uT; omega)), h4.frt h5 F, h5, h6, fun f hf i hi => ⟨(F _ _ (by unfold uT; omega)).trans (h7 f hf i hi).1, (F _ _ (by unfold uT; omega)).trans (h7 f hf i hi).2⟩, fun f hf i hi => ⟨(F _ _ (by unfold uT; omega)).trans (h8 f hf i hi).1, (F _ _ (by unfold uT; omega)).trans (h8 f hf i hi).2⟩, k1 h1 h9, k2 h1 h5 h10⟩
theorem iS.fns (h : iS s g q hi l ps S) : ∃ n, n ≤ 12 ∧ sI s 178 q = nI n := by
  rcases h with h | h
  · exact h.2.2
  · exact ⟨_, h.2.2.2.2.1.2.1, h.2.2.2.1.1⟩
set_option maxHeartbeats 8000000 in
theorem op_loadP {Q : Int32 → yS → Prop} (h : Iv s) (H : ∀ r s1, (∀ Q2 : Int32 → yS → Prop, (∀ s2, Iv s2 → Q2 r s2) → W_X12_loadProgram s1 Q2) → Q r s1) : W_X11_loadProgram s Q := by
  obtain ⟨pc, po, gp, gf, gs, B, nb, W, T, nt, ps, S, x, l0, l1, an, na, hA, hK, hB, hW, hF, hP, hH, h0, h1, hR, hN⟩ := id h
  obtain ⟨a1, a2, a3, a4, a5, a6, a7, a8, a9, a10, a11, a12⟩ := id hA
  have h37 : (gp = 37 ∨ gp = 55 ∨ gp = 73) ∧ (gf = 37 ∨ gf = 55 ∨ gf = 73) ∧ (gs = 37 ∨ gs = 55 ∨ gs = 73) := ⟨a7, a8, a9⟩
  refine c_loadProgram hB.1 a9 a7 (Ne.symm a11) a6 a4 (fun l hl hok s1 FI FJ FR c8 c10 pg1 td1 m13 f4 f5 p11 p12 r124 => ?_) (fun e he e1 e8 s1 F1 f4 f5 => ?_)
  · have hva := ldP_va hl
    have KI : ∀ a i, 139 ≤ a → sI s1 a i = sI s a i := fun a i ha => FI a i (by unfold dLd dRd dVy; omega) (by omega) (by omega)
    have KJ : ∀ a i, 139 ≤ a → sJ s1 a i = sJ s a i := fun a i ha => FJ a i (by unfold dLd dRd dVy; omega)
    refine H _ s1 (fun Q2 H2 => ?_)
    refine k_loadProgram (hB.2.fr (KI _ _ (by omega)) (fun i => KI _ _ (by omega))) (fun l' hl' _ s2 F2 pg2 tp2 g0 g1 g2 g3 g4 g5 => ?_) (fun e he => ?_)
    · rw [hl] at hl'
      have := Except.ok.inj hl'
      subst this
      have CI : ∀ a i, a < 139 → sI s2 a i = sI s1 a i := fun a i ha => F2.1 _ _ (by unfold dLf dLg dRp dNb dCp; omega)
      have CJ : ∀ a i, a < 139 → sJ s2 a i = sJ s1 a i := fun a i ha => F2.2.1 _ _ (by unfold dLf dLg dRp dNb dCp; omega)
      have CR : ∀ i, sR s2 0 i = sR s1 0 i := fun i => F2.2.2 _ _
      have F : ∀ {E : Nat → Nat → Prop}, (∀ a i, E a i → (a < 139 → ¬ dLd gs a i ∧ ¬ (a = 0 ∧ (i = 11 ∨ i = 12)) ∧ ¬ (a = 124 ∧ i = 0)) ∧ (139 ≤ a → ¬ dLf a i)) → sm E s s2 := fun {E} hE => by
        refine ⟨fun a i he => ?_, fun a i he => ?_⟩
        · by_cases c : a < 139
          · obtain ⟨u1, u2, u3⟩ := (hE a i he).1 c
            rw [CI a i c]; exact FI a i u1 u2 u3
          · rw [F2.1 a i ((hE a i he).2 (by omega))]; exact KI a i (by omega)
        · by_cases c : a < 139
          · rw [CJ a i c]; exact FJ a i ((hE a i he).1 c).1
          · rw [F2.2.1 a i ((hE a i he).2 (by omega))]; exact KJ a i (by omega)
      refine H2 _ ⟨pc, po, gs, gf, gp, B, nb, W, T, nt, ps, S, x, l, l1, an, na, ?_, ?_, ?_, ?_, ?_, ?_, ?_, ?_, ?_, ?_, ?_⟩
      · exact ⟨a1, by rw [CR, FR _ _ (by omega) (by omega) (by omega)]; exact a2, by rw [CR, FR _ _ (by omega) (by omega) (by omega)]; exact a3, by rw [CR]; exact c8, by rw [CR, FR _ _ (by omega) (by omega) (by omega)]; exact a5, by rw [CR]; exact c10, a9, a8, a7, Ne.symm a12, Ne.symm a11, Ne.symm a10⟩
      · exact hK.fr (F (fun a i h => by unfold uK at h; unfold dLd dRd dVy dLf dLg dRp dNb dCp; omega))
      · exact hB.fr (F (fun a i h => by unfold uB at h; unfold dLd dRd dVy dLf dLg dRp dNb dCp; omega))
      · exact hW.fr (F (fun a i h => by unfold uW at h; unfold dLd dRd dVy dLf dLg dRp dNb dCp; omega))
      · exact ⟨by rw [g4, CI _ _ (by omega)]; exact f4.symm, by rw [g5, CI _ _ (by omega)]; exact f5.symm⟩
      · exact hP.fr (F (fun a i h => by unfold uP at h; unfold dLd dRd dVy dLf dLg dRp dNb dCp; omega))
      · exact hH.fr (F (fun a i h => by unfold uH at h; unfold dLd dRd dVy dLf dLg dRp dNb dCp; omega))
      · exact Or.inr ⟨(CI _ _ (by omega)).trans p11, g0, pg1.fr (fun a i ha => CI _ _ (by omega)), pg2, hok, hva, td1.fr (fun a i _ _ => CI _ _ (by omega)), tp2, Or.inl ((CI _ _ (by omega)).trans m13), Or.inl g2⟩
      · obtain ⟨n, hn, en⟩ := h1.fns
        exact Or.inl ⟨(CI _ _ (by omega)).trans p12, g1, n, hn, by rw [F2.1 _ _ (by unfold dLf dLg dRp dNb dCp; omega), KI _ _ (by omega)]; exact en⟩
      · exact Or.inl ⟨(CI _ _ (by omega)).trans r124, g3⟩
      · exact hN.fr (F (fun a i h => by unfold uN at h; unfold dLd dRd dVy dLf dLg dRp dNb dCp; omega))
    · exfalso; rw [hl] at he; exact ok_er he
  · have KI : ∀ a i, 139 ≤ a → sI s1 a i = sI s a i := fun a i ha => F1.1 a i (by unfold dLd dRd dVy; omega)
    refine H _ s1 (fun Q2 H2 => ?_)
    refine k_loadProgram (hB.2.fr (KI _ _ (by omega)) (fun i => KI _ _ (by omega))) (fun l' hl' => ?_) (fun e' he' _ _ s2 F2 g4 g5 => ?_)
    · exfalso; rw [he] at hl'; exact er_ok hl'
    · rw [he] at he'
      have := Except.error.inj he'
      subst this
      have F : fr0 (fun a i => dLd gs a i ∨ dLg a i) s s2 := by
        have q1 : fr0 (fun a i => dLd gs a i ∨ dLg a i) s s1 := ⟨fun a i hn => F1.1 a i (fun h => hn (Or.inl h)), fun a i hn => F1.2.1 a i (fun h => hn (Or.inl h)), fun i => F1.2.2 _ _ (by omega) (by omega)⟩
        exact q1.trans (F2.f0.mono (fun a i h => Or.inr h))
      refine H2 _ ⟨pc, po, gp, gf, gs, B, nb, W, T, nt, ps, S, x, l0, l1, an, na, hA.fr (fun i _ _ => F.2.2 _), ?_, ?_, ?_, ?_, ?_, ?_, ?_, ?_, ?_, ?_⟩
      · exact hK.fr (F.sm (fun a i h => by unfold uK at h; unfold dLd dRd dVy dLg dRp dNb; omega))
      · exact hB.fr (F.sm (fun a i h => by unfold uB at h; unfold dLd dRd dVy dLg dRp dNb; omega))
      · exact hW.fr (F.sm (fun a i h => by unfold uW at h; unfold dLd dRd dVy dLg dRp dNb; omega))
      · exact ⟨by rw [g4, F2.1 0 _ (by unfold dLg dRp dNb; omega)]; exact f4.symm, by rw [g5, F2.1 0 _ (by unfold dLg dRp dNb; omega)]; exact f5.symm⟩
      · exact hP.fr (F.sm (fun a i h => by unfold uP at h; unfold dLd dRd dVy dLg dRp dNb; omega))
      · exact hH.fr (F.sm (fun a i h => by unfold uH at h; unfold dLd dRd dVy dLg dRp dNb; omega))
      · exact h0.fr (F.sm (fun a i h => by unfold uS uG at h; unfold dLd dRd dVy dLg dRp dNb; omega))
      · exact h1.fr (F.sm (fun a i h => by unfold uS uG at h; unfold dLd dRd dVy dLg dRp dNb; omega))
      · exact hR.fr (F.sm (fun a i h => by unfold uR at h; unfold dLd dRd dVy dLg dRp dNb; omega))
      · exact hN.fr (F.sm (fun a i h => by unfold uN at h; unfold dLd dRd dVy dLg dRp dNb; omega))
set_option maxHeartbeats 8000000 in
theorem op_loadPol {Q : Int32 → yS → Prop} (h : Iv s) (H : ∀ r s1, (∀ Q2 : Int32 → yS → Prop, (∀ s2, Iv s2 → Q2 r s2) → W_X12_loadPolicy s1 Q2) → Q r s1) : W_X11_loadPolicy s Q := by
  obtain ⟨pc, po, gp, gf, gs, B, nb, W, T, nt, ps, S, x, l0, l1, an, na, hA, hK, hB, hW, hF, hP, hH, h0, h1, hR, hN⟩ := id h
  obtain ⟨a1, a2, a3, a4, a5, a6, a7, a8, a9, a10, a11, a12⟩ := id hA
  have h37 : (gp = 37 ∨ gp = 55 ∨ gp = 73) ∧ (gf = 37 ∨ gf = 55 ∨ gf = 73) := ⟨a7, a8⟩
  refine c_loadPolicy hB.1 hK.1 hK.2.1 (p := po) (pc := pc) (g := gp) (by omega) a3 a2 hK.2.2.2 a4 a7.kd (by omega) (fun ps' S' hpol s1 FI FJ FR c6 c7 ky1 pi1 po1 pl1 f4 f5 c12 m13 r124 w136 w137 => ?_) (fun e he e1 e8 s1 F1 ky1 pi1 f4 f5 => ?_)
  · have KI : ∀ a i, 139 ≤ a → sI s1 a i = sI s a i := fun a i ha => FI a i (by unfold dQ; omega) (by omega) (by omega) (by omega) (by omega) (by omega)
    have KJ : ∀ a i, 139 ≤ a → sJ s1 a i = sJ s a i := fun a i ha => FJ a i (by unfold dQ; omega) (by omega)
    refine H _ s1 (fun Q2 H2 => ?_)
    refine k_loadPolicy (hB.2.fr (KI _ _ (by omega)) (fun i => KI _ _ (by omega))) (hP.1.fr (KI _ _ (by omega)) (fun i => KI _ _ (by omega))) hP.2.1 (fun ps2 S2 hpol2 hm2 _ s2 F2 tx2 plm2 k0 k1 g4 g5 g1 g89 g99 g206 => ?_) (fun e he => ?_)
    · rw [hpol] at hpol2
      obtain ⟨rfl, rfl⟩ := Prod.mk.inj (Except.ok.inj hpol2)
      have CI : ∀ a i, a < 139 → sI s2 a i = sI s1 a i := fun a i ha => F2.1 _ _ (by unfold dLq dLp; omega)
      have CJ : ∀ a i, a < 139 → sJ s2 a i = sJ s1 a i := fun a i ha => F2.2.1 _ _ (by unfold dLq dLp; omega)
      have CR : ∀ i, sR s2 0 i = sR s1 0 i := fun i => F2.2.2 _ _
      have F : ∀ {E : Nat → Nat → Prop}, (∀ a i, E a i → (a < 139 → ¬ dQ po a i ∧ ¬ (a = 0 ∧ i = 12) ∧ ¬ (a = gp ∧ i = 13) ∧ ¬ (a = 124 ∧ i = 0) ∧ ¬ (a = 136 ∧ i = 0) ∧ a ≠ 137) ∧ (139 ≤ a → ¬ dLq a i)) → sm E s s2 := fun {E} hE => by
        refine ⟨fun a i he => ?_, fun a i he => ?_⟩
        · by_cases c : a < 139
          · obtain ⟨u1, u2, u3, u4, u5, u6⟩ := (hE a i he).1 c
            rw [CI a i c]; exact FI a i u1 u2 u3 u4 u5 u6
          · rw [F2.1 a i ((hE a i he).2 (by omega))]; exact KI a i (by omega)
        · by_cases c : a < 139
          · obtain ⟨u1, u2, u3, u4, u5, u6⟩ := (hE a i he).1 c
            rw [CJ a i c]; exact FJ a i u1 u6
          · rw [F2.2.1 a i ((hE a i he).2 (by omega))]; exact KJ a i (by omega)
      have h1Q := stQ_one hm2 hm2.head
      refine H2 _ ⟨po, pc, gp, gf, gs, B, nb, W, B, nb, ps', S', 1, l0, l1, an, na, ?_, ?_, ?_, ?_, ?_, ?_, ?_, ?_, ?_, ?_, ?_⟩
      · exact ⟨by omega, by rw [CR]; exact c6, by rw [CR]; exact c7, by rw [CR, FR _ _ (by omega) (by omega) (by omega)]; exact a4, by rw [CR, FR _ _ (by omega) (by omega) (by omega)]; exact a5, by rw [CR, FR _ _ (by omega) (by omega) (by omega)]; exact a6, a7, a8, a9, a10, a11, a12⟩
      · refine ⟨fun w hw => ?_, fun k hk => (CI _ _ (by omega)).trans (ky1 k hk), ⟨(CI _ _ (by omega)).trans pi1.1, (CI _ _ (by omega)).trans pi1.2⟩, ?_, ?_⟩
        · rw [CJ _ _ (by omega), FJ _ _ (by unfold dQ; omega) (by omega)]; exact hK.1 w hw
        · rw [CI _ _ (by omega), FI _ _ (by unfold dQ; omega) (by omega) (by omega) (by omega) (by omega) (by omega)]; exact hK.2.2.1.1
        · rw [CI _ _ (by omega), FI _ _ (by unfold dQ; omega) (by omega) (by omega) (by omega) (by omega) (by omega)]; exact hK.2.2.1.2
      · exact hB.fr (F (fun a i h => by unfold uB at h; unfold dQ dLq dLp; omega))
      · exact hW.fr (F (fun a i h => by unfold uW at h; unfold dQ dLq dLp; omega))
      · exact ⟨by rw [g4, CI _ _ (by omega)]; exact f4.symm, by rw [g5, CI _ _ (by omega)]; exact f5.symm⟩
      · have po2 : poC s2 po ps' := po1.fr (fun a i ha => CI _ _ (by omega))
        exact ⟨tx2, hpol, hm2, plm2, pl1.fr (fun a i ha => CI _ _ (by omega)) (fun a i ha => CJ _ _ (by omega)), Or.inl po2, po2.2.2.2.2.2.2.2.2.2.2, po2.1, po2.2.1⟩
      · refine ⟨by rw [CI _ _ (by omega), w136, h1Q.2]; rfl, g99, h1Q.1, fun k hk => by rw [g206 k hk, CI _ _ (by omega)]; exact (w137 k hk).symm, fun k hk => ⟨0, Nat.zero_le _, ?_⟩⟩
        have := hm2.2.1.1
        rw [CI _ _ (by omega)]; exact w137 k (by omega)
      · exact h0.re (fun a i h => (F (E := uT gp 0 11) (fun a i h => by unfold uT at h; unfold dQ dLq dLp; omega)).1 a i h) (fun _ _ => Or.inl ((CI _ _ (by omega)).trans m13)) (fun _ _ _ => Or.inl k0)
      · obtain ⟨n, hn, en⟩ := h1.fns
        exact Or.inl ⟨(CI _ _ (by omega)).trans c12, g1, n, hn, by rw [F2.1 _ _ (by unfold dLq dLp; omega), KI _ _ (by omega)]; exact en⟩
      · exact Or.inl ⟨(CI _ _ (by omega)).trans r124, g89⟩
      · exact hN.fr (F (fun a i h => by unfold uN at h; unfold dQ dLq dLp; omega))
    · exfalso; rw [hpol] at he; exact ok_er he
  · have KI : ∀ a i, 139 ≤ a → sI s1 a i = sI s a i := fun a i ha => F1.1 a i (by unfold dQ; omega)
    refine H _ s1 (fun Q2 H2 => ?_)
    refine k_loadPolicy (hB.2.fr (KI _ _ (by omega)) (fun i => KI _ _ (by omega))) (hP.1.fr (KI _ _ (by omega)) (fun i => KI _ _ (by omega))) hP.2.1 (fun ps2 S2 hpol2 => ?_) (fun e' he' _ _ s2 F2 tx2 hm2 plm2 k0 k1 g4 g5 => ?_)
    · exfalso; rw [he] at hpol2; exact er_ok hpol2
    · rw [he] at he'
      have := Except.error.inj he'
      subst this
      have F : fr0 (fun a i => dQ po a i ∨ dLp a i) s s2 := by
        have q1 : fr0 (fun a i => dQ po a i ∨ dLp a i) s s1 := ⟨fun a i hn => F1.1 a i (fun h => hn (Or.inl h)), fun a i hn => F1.2.1 a i (fun h => hn (Or.inl h)), fun i => F1.2.2 _ _ (by omega) (by omega)⟩
        exact q1.trans (F2.f0.mono (fun a i h => Or.inr h))
      have CI : ∀ a i, a < 139 → sI s2 a i = sI s1 a i := fun a i ha => F2.1 _ _ (by unfold dLp; omega)
      have KC : ∀ {a i : Nat}, a < 139 → ¬ dQ po a i → sI s2 a i = sI s a i := fun {a i} ha hn => by rw [CI a i ha]; exact F1.1 a i hn
      have KCJ : ∀ {a i : Nat}, a < 139 → ¬ dQ po a i → sJ s2 a i = sJ s a i := fun {a i} ha hn => by rw [F2.2.1 _ _ (by unfold dLp; omega)]; exact F1.2.1 a i hn
      refine H2 _ ⟨pc, po, gp, gf, gs, B, nb, W, T, nt, ps, S, x, l0, l1, an, na, hA.fr (fun i _ _ => F.2.2 _), ?_, ?_, ?_, ?_, ?_, ?_, ?_, ?_, ?_, ?_⟩
      · refine ⟨fun w hw => (KCJ (by omega) (by unfold dQ; omega)).trans (hK.1 w hw), fun k hk => (CI _ _ (by omega)).trans (ky1 k hk), ⟨(KC (by omega) (by unfold dQ; omega)).trans hK.2.2.1.1, (KC (by omega) (by unfold dQ; omega)).trans hK.2.2.1.2⟩, (CI _ _ (by omega)).trans pi1.1, (CI _ _ (by omega)).trans pi1.2⟩
      · exact hB.fr (F.sm (fun a i h => by unfold uB at h; unfold dQ dLp; omega))
      · exact hW.fr (F.sm (fun a i h => by unfold uW at h; unfold dQ dLp; omega))
      · exact ⟨by rw [g4, CI _ _ (by omega)]; exact f4.symm, by rw [g5, CI _ _ (by omega)]; exact f5.symm⟩
      · obtain ⟨_, q2, q3, _, q5, q6, q7, q8, q9⟩ := hP
        exact ⟨tx2, q2, q3, plm2, q5.fr (fun a i ha => KC (by omega) (by unfold dQ; omega)) (fun a i ha => KCJ (by omega) (by unfold dQ; omega)), q6.fr2 (fun a i u1 u2 => KC (by omega) (by unfold dQ; omega)), fun c hc => by rw [KC (by omega) (by unfold dQ; omega)]; exact q7 c hc, (KC (by omega) (by unfold dQ; omega)).trans q8, (KC (by omega) (by unfold dQ; omega)).trans q9⟩
      · exact hH.fr (F.sm (fun a i h => by unfold uH at h; unfold dQ dLp; omega))
      · exact h0.re (fun a i h => F.1 a i (by unfold uT at h; unfold dQ dLp; omega)) (fun _ m => m.fr (fun a i u1 u2 => F.1 a i (by unfold dQ dLp; omega)) (fun i => F.2.1 _ _ (by unfold dQ dLp; omega))) (fun _ _ _ => Or.inl k0)
      · exact h1.re (fun a i h => F.1 a i (by unfold uT at h; unfold dQ dLp; omega)) (fun _ m => m.fr (fun a i u1 u2 => F.1 a i (by unfold dQ dLp; omega)) (fun i => F.2.1 _ _ (by unfold dQ dLp; omega))) (fun _ _ _ => Or.inl k1)
      · exact hR.fr (F.sm (fun a i h => by unfold uR at h; unfold dQ dLp; omega))
      · exact hN.fr (F.sm (fun a i h => by unfold uN at h; unfold dQ dLp; omega))
end

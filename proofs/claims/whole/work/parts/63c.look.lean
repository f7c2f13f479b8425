section
variable {s : yS}
theorem offs_of (ps : PS) : ∀ (m a : Nat), a < offs ps m → ∃ c i, c < m ∧ i < nLet ps c ∧ a = offs ps c + i
  | 0, a, h => absurd h (Nat.not_lt_zero _)
  | m + 1, a, h => by
    by_cases c : a < offs ps m
    · obtain ⟨c, i, h1, h2, h3⟩ := offs_of ps m a c
      exact ⟨c, i, by omega, h2, h3⟩
    · have h : a < offs ps m + nLet ps m := h
      exact ⟨m, a - offs ps m, by omega, by omega, by omega⟩
theorem op_turn {Q : yS → Prop} (h : Iv s) (H : ∀ s1, (∀ Q2 : yS → Prop, (∀ s2, Iv s2 → Q2 s2) → W_X12_turnBytes s1 Q2) → Q s1) : W_X11_turnBytes s Q := by
  obtain ⟨W, w1, w2, ⟨w3, w4⟩, w5, w6⟩ := h.gW
  have hlt : ∀ k, W.getD k 0 < 256 := fun k => by
    by_cases c : k < W.length
    · rw [getD_at c]; exact w6 _ (List.getElem_mem c)
    · rw [List.getD_eq_getElem?_getD, List.getElem?_eq_none (by omega)]; decide
  unfold W_X11_turnBytes
  rw [w2, nI_ix (n := W.length) (by omega), show ix 0 = 0 from rfl]
  refine ⟨⟨by decide, by decide, by rw [nI_0U, nI_ltU (by omega) (by omega)]; omega, by omega, by omega⟩, fun i hi => ?_, ?_⟩
  · rw [Nat.zero_add, w1 i hi]; exact fits8 (hlt i)
  intro s1 e1
  have n1 : ∀ a i, ¬ a = 1 → sI s1 a i = sI s a i := fun a i h => by subst e1; rw [sI_wC_eq, if_neg h]
  have v1 : ∀ i, i < W.length → sI s1 1 i = bC (W.getD i 0) := fun i hi => by
    subst e1; rw [sI_wC_eq, if_pos rfl]; unfold va_cpy; rw [if_pos (by omega), show 0 + (i - 0) = i by omega]; exact w1 i hi
  have F1 : frM (fun a i => uB a i ∨ (a = 139 ∧ i = 0)) s s1 := by
    refine ⟨fun a i h => n1 a i (fun hh => h (by unfold uB; omega)), fun a i h => ?_, fun a i => ?_⟩
    · subst e1; rfl
    · subst e1; rfl
  clear e1
  rw [n1 0 3 (by omega), w2]
  intro s4 e4
  have n4 : ∀ a i, ¬ (a = 0 ∧ i = 2) → sI s4 a i = sI s1 a i := fun a i h => by subst e4; rw [sI_w, if_neg h]
  have c4 : sI s4 0 2 = nI W.length := by subst e4; rw [sI_w, if_pos ⟨rfl, rfl⟩]
  have F4 : frM (fun a i => uB a i ∨ (a = 139 ∧ i = 0)) s s4 := by subst e4; exact F1.wI (by unfold uB; omega)
  refine H s4 (fun Q2 H2 => ?_)
  unfold W_X12_turnBytes
  intro t1 d1
  have m1 : ∀ a i, ¬ (a = 139 ∧ i = 0) → sI t1 a i = sI s4 a i := fun a i h => by subst d1; rw [sI_w, if_neg h]
  rw [m1 139 5 (by omega), n4 139 5 (by omega), n1 139 5 (by omega), w3]
  intro t2 d2
  have m2 : ∀ a i, ¬ (a = 139 ∧ i = 2) → sI t2 a i = sI t1 a i := fun a i h => by subst d2; rw [sI_w, if_neg h]
  have g2 : sI t2 139 2 = nI W.length := by subst d2; rw [sI_w, if_pos ⟨rfl, rfl⟩]
  have F2 : frM (fun a i => uB a i ∨ (a = 139 ∧ i = 0)) s t2 := by subst d2; subst d1; exact (F4.wI (by unfold uB; omega)).wI (by unfold uB; omega)
  intro P15 hP15
  suffices hL : ∀ (q k : Nat) (t : yS), k + q = W.length → frM (fun a i => a = 140) t2 t → (∀ i, i < k → sI t 140 i = nI (W.getD i 0)) → P15 (nI k) t from
    hL W.length 0 t2 (Nat.zero_add _) frM.rfl' (fun i hi => absurd hi (Nat.not_lt_zero _))
  intro q
  induction q with
  | zero =>
    intro k t hk Ft bt
    obtain rfl : k = W.length := by omega
    apply hP15
    rw [Ft.1 139 2 (by omega), g2]
    refine ⟨fun _ => ?_, fun hz => absurd ((nI_leU (by omega) (by omega)).mpr (Nat.le_refl _)) hz⟩
    have F : frM (fun a i => uB a i ∨ (a = 139 ∧ i = 0)) s t := F2.trans (Ft.mono (fun a i h => by unfold uB; omega))
    refine H2 t (h.bytes F (B' := fun k => W.getD k 0) (nb' := W.length) ⟨⟨⟨w5, fun k hk => ?_, hlt⟩, ?_⟩, w5, ?_, bt, hlt⟩)
    · rw [Ft.1 _ _ (by omega), m2 _ _ (by omega), m1 _ _ (by omega), n4 _ _ (by omega)]; exact v1 k hk
    · rw [Ft.1 _ _ (by omega), m2 _ _ (by omega), m1 _ _ (by omega)]; exact c4
    · rw [Ft.1 _ _ (by omega)]; exact g2
  | succ q ih =>
    intro k t hk Ft bt
    apply hP15
    rw [Ft.1 139 2 (by omega), g2]
    refine ⟨fun hz => absurd ((nI_leU (by omega) (by omega)).mp hz) (by omega), fun _ => ?_⟩
    have hin : vp_in (nI k) 8192 := nI_inU (by omega) (by omega)
    refine ⟨hin, hin, ?_⟩
    rw [nI_ix (n := k) (by omega), Ft.1 141 _ (by omega), m2 141 _ (by omega), m1 141 _ (by omega), n4 141 _ (by omega), n1 141 _ (by omega), w4 k (by omega)]
    intro s7 e7 x8 e8
    subst e8; rw [nI_s]
    refine ih (k + 1) s7 (by omega) (by subst e7; exact Ft.wI rfl) (fun i hi => ?_)
    subst e7; rw [sI_w]
    by_cases c : i = k
    · subst c; rw [if_pos ⟨rfl, rfl⟩]
    · rw [if_neg (fun h => c h.2)]; exact bt i (by omega)
theorem op_byteOf {v1 v2 : Int32} {Q : Int32 → Prop} (h : Iv s) (H : ∀ r, (∀ Q2 : Int32 → yS → Prop, (∀ s2, Iv s2 → Q2 r s2) → W_X12_byteOf s v1 v2 Q2) → Q r) : W_X11_byteOf s v1 v2 Q := by
  obtain ⟨W, w1, w2, ⟨w3, w4⟩, w5, w6⟩ := h.gW
  obtain ⟨B, nb, ⟨⟨b1, b2, b3⟩, b4⟩, c1, c2, c3, c4⟩ := h.gB
  have hlt : ∀ k, W.getD k 0 < 256 := fun k => by
    by_cases c : k < W.length
    · rw [getD_at c]; exact w6 _ (List.getElem_mem c)
    · rw [List.getD_eq_getElem?_getD, List.getElem?_eq_none (by omega)]; decide
  have nar : ∀ {k : Nat}, k < 8192 → vp_in (nI k) 8192 := fun hk => nI_inU (by omega) (by omega)
  unfold W_X11_byteOf
  rw [w2, b4]
  have neg : v1 < 0 → Q (-1) := fun hn => H _ (fun Q2 H2 => by
    unfold W_X12_byteOf
    intro s1 e1
    exact ⟨fun _ => H2 _ (by subst e1; exact h.z0), fun hz => absurd hn hz⟩)
  refine ⟨neg, fun hnn => ?_⟩
  obtain ⟨n, en, hn31⟩ : ∃ n, v1 = nI n ∧ n < 2147483648 := by
    rw [i_ltI] at hnn; exact nI_ofU (Int.not_lt.mp hnn)
  subst en
  intro P20 hP20
  refine ⟨fun h0 => hP20 _ ?_, fun h0 => hP20 _ ?_⟩
  · rw [nI_ltU (by omega) (by omega), nI_ix (n := n) (by omega)]
    have key : ∀ r, (n < W.length → r = nI (W.getD n 0)) → (¬ n < W.length → r = -1) → Q r := fun r ha hb => H r (fun Q2 H2 => by
      unfold W_X12_byteOf
      intro s1 e1
      have m1 : ∀ a i, ¬ (a = 139 ∧ i = 0) → sI s1 a i = sI s a i := fun a i h => by subst e1; rw [sI_w, if_neg h]
      have i1 : Iv s1 := by subst e1; exact h.z0
      refine ⟨fun hz => absurd hz hnn, fun _ => ?_⟩
      intro P25 hP25
      refine ⟨fun _ => hP25 _ ?_, fun hz => absurd h0 hz⟩
      rw [m1 139 5 (by omega), w3, nI_ltU (by omega) (by omega), nI_ix (n := n) (by omega), m1 141 _ (by omega)]
      refine ⟨fun hl => ⟨fun _ => ⟨nar (by omega), ?_⟩, fun hz => absurd h0 hz⟩, fun hl => ?_⟩
      · rw [w4 n hl, ← ha hl]; exact H2 _ i1
      · rw [← hb hl]; exact H2 _ i1)
    refine ⟨fun hl => ⟨fun _ => ⟨nar (by omega), key _ (fun _ => by rw [w1 n hl]; exact bC_and (hlt n)) (fun hz => absurd hl hz)⟩, fun hz => absurd h0 hz⟩, fun hl => key _ (fun hz => absurd hz hl) (fun _ => rfl)⟩
  · rw [nI_ltU (by omega) (by omega), nI_ix (n := n) (by omega)]
    have key : ∀ r, (n < nb → r = nI (B n)) → (¬ n < nb → r = -1) → Q r := fun r ha hb => H r (fun Q2 H2 => by
      unfold W_X12_byteOf
      intro s1 e1
      have m1 : ∀ a i, ¬ (a = 139 ∧ i = 0) → sI s1 a i = sI s a i := fun a i h => by subst e1; rw [sI_w, if_neg h]
      have i1 : Iv s1 := by subst e1; exact h.z0
      refine ⟨fun hz => absurd hz hnn, fun _ => ?_⟩
      intro P25 hP25
      refine ⟨fun hz => absurd hz h0, fun _ => hP25 _ ?_⟩
      rw [m1 139 2 (by omega), c2, nI_ltU (by omega) (by omega), nI_ix (n := n) (by omega), m1 140 _ (by omega)]
      refine ⟨fun hl => ⟨fun hz => absurd hz h0, fun _ => ⟨nar (by omega), ?_⟩⟩, fun hl => ?_⟩
      · rw [c3 n hl, ← ha hl]; exact H2 _ i1
      · rw [← hb hl]; exact H2 _ i1)
    refine ⟨fun hl => ⟨fun hz => absurd hz h0, fun _ => ⟨nar (by omega), key _ (fun _ => by rw [b2 n hl]; exact bC_and (b3 n)) (fun hz => absurd hl hz)⟩⟩, fun hl => key _ (fun hz => absurd hz hl) (fun _ => rfl)⟩
theorem Iv.answers {s' : yS} (h : Iv s) (F : frM (fun a i => uN a i ∨ (a = 139 ∧ i = 0)) s s') {an' : Nat → Int32} {na' : Nat} (hN' : iN s' an' na') : Iv s' := by
  obtain ⟨pc, po, gp, gf, gs, B, nb, W, T, nt, ps, S, x, l0, l1, an, na, hA, hK, hB, hW, hF, hP, hH, h0, h1, hR, hN⟩ := h
  have hpc := hA.1
  have h37 : (gp = 37 ∨ gp = 55 ∨ gp = 73) ∧ (gf = 37 ∨ gf = 55 ∨ gf = 73) := ⟨hA.2.2.2.2.2.2.1, hA.2.2.2.2.2.2.2.1⟩
  exact ⟨pc, po, gp, gf, gs, B, nb, W, T, nt, ps, S, x, l0, l1, an', na', hA.fr (fun i _ _ => F.2.2 _ _), hK.fr (F.sm (fun a i h => by unfold uK at h; unfold uN; omega)), hB.fr (F.sm (fun a i h => by unfold uB at h; unfold uN; omega)), hW.fr (F.sm (fun a i h => by unfold uW at h; unfold uN; omega)), hF.fr (F.sm (fun a i h => by unfold uF at h; unfold uN; omega)), hP.fr (F.sm (fun a i h => by unfold uP at h; unfold uN; omega)), hH.fr (F.sm (fun a i h => by unfold uH at h; unfold uN; omega)), h0.fr (F.sm (fun a i h => by unfold uS uG at h; unfold uN; omega)), h1.fr (F.sm (fun a i h => by unfold uS uG at h; unfold uN; omega)), hR.fr (F.sm (fun a i h => by unfold uR at h; unfold uN; omega)), hN'⟩
theorem Iv.gN (h : Iv s) : ∃ an na, iN s an na := by
  obtain ⟨pc, po, gp, gf, gs, B, nb, W, T, nt, ps, S, x, l0, l1, an, na, hA, hK, hB, hW, hF, hP, hH, h0, h1, hR, hN⟩ := h
  exact ⟨an, na, hN⟩
theorem op_addA {v1 : Int32} {Q : Int32 → yS → Prop} (h : Iv s) (H : ∀ r s1, (∀ Q2 : Int32 → yS → Prop, (∀ s2, Iv s2 → Q2 r s2) → W_X12_addAnswer s1 v1 Q2) → Q r s1) : W_X11_addAnswer s v1 Q := by
  obtain ⟨an, na, ⟨a1, a2, a3⟩, a4, a5, a6⟩ := h.gN
  unfold W_X11_addAnswer W_X2_takeAnswer
  rw [a1, nI_inj (by omega) (by omega)]
  refine ⟨fun hne => ?_, fun heq => H _ s (fun Q2 H2 => ?_)⟩
  · rw [nI_ix (n := na) (by omega)]
    refine ⟨nI_inU (by omega) (by omega), ?_⟩
    intro s2 e2
    have n2 : ∀ a i, ¬ (a = 128 ∧ i = na) → sI s2 a i = sI s a i := fun a i h => by subst e2; rw [sI_w, if_neg h]
    rw [n2 123 2 (by omega), a1, nI_s]
    intro s3 e3
    have n3 : ∀ a i, ¬ (a = 123 ∧ i = 2) → sI s3 a i = sI s2 a i := fun a i h => by subst e3; rw [sI_w, if_neg h]
    have c3 : sI s3 123 2 = nI (na + 1) := by subst e3; rw [sI_w, if_pos ⟨rfl, rfl⟩]
    rw [c3]
    refine H _ s3 (fun Q2 H2 => ?_)
    unfold W_X12_addAnswer
    intro t1 d1
    have m1 : ∀ a i, ¬ (a = 139 ∧ i = 0) → sI t1 a i = sI s3 a i := fun a i h => by subst d1; rw [sI_w, if_neg h]
    rw [m1 139 88 (by omega), n3 139 88 (by omega), n2 139 88 (by omega), a4, nI_inj (by omega) (by omega)]
    refine ⟨fun _ => ?_, fun hz => absurd hz hne⟩
    rw [nI_ix (n := na) (by omega)]
    refine ⟨nI_inU (by omega) (by omega), ?_⟩
    intro t3 d3
    have m3 : ∀ a i, ¬ (a = 204 ∧ i = na) → sI t3 a i = sI t1 a i := fun a i h => by subst d3; rw [sI_w, if_neg h]
    rw [m3 139 88 (by omega), m1 139 88 (by omega), n3 139 88 (by omega), n2 139 88 (by omega), a4, nI_s]
    intro t4 d4
    have m4 : ∀ a i, ¬ (a = 139 ∧ i = 88) → sI t4 a i = sI t3 a i := fun a i h => by subst d4; rw [sI_w, if_neg h]
    have c4 : sI t4 139 88 = nI (na + 1) := by subst d4; rw [sI_w, if_pos ⟨rfl, rfl⟩]
    rw [c4]
    have F : frM (fun a i => uN a i ∨ (a = 139 ∧ i = 0)) s t4 := by
      subst d4; subst d3; subst d1; subst e3; subst e2
      exact ((((frM.rfl'.wI (by unfold uN; omega)).wI (by unfold uN; omega)).wI (by unfold uN; omega)).wI (by unfold uN; omega)).wI (by unfold uN; omega)
    refine H2 t4 (h.answers F (an' := upF an na v1) (na' := na + 1) ⟨⟨?_, by omega, fun i hi => ?_⟩, c4, by omega, fun i hi => ?_⟩)
    · rw [m4 _ _ (by omega), m3 _ _ (by omega), m1 _ _ (by omega)]; exact c3
    · rw [m4 _ _ (by omega), m3 _ _ (by omega), m1 _ _ (by omega), n3 _ _ (by omega)]
      by_cases c : i = na
      · subst c; rw [upF_at]; subst e2; rw [sI_w, if_pos ⟨rfl, rfl⟩]
      · rw [upF_ne c, n2 _ _ (by omega)]; exact a3 i (by omega)
    · rw [m4 _ _ (by omega)]
      by_cases c : i = na
      · subst c; rw [upF_at]; subst d3; rw [sI_w, if_pos ⟨rfl, rfl⟩]
      · rw [upF_ne c, m3 _ _ (by omega), m1 _ _ (by omega), n3 _ _ (by omega), n2 _ _ (by omega)]; exact a6 i (by omega)
  · unfold W_X12_addAnswer
    intro t1 d1
    have m1 : ∀ a i, ¬ (a = 139 ∧ i = 0) → sI t1 a i = sI s a i := fun a i h => by subst d1; rw [sI_w, if_neg h]
    rw [m1 139 88 (by omega), a4, nI_inj (by omega) (by omega)]
    exact ⟨fun hz => absurd heq hz, fun _ => H2 _ (by subst d1; exact h.z0)⟩
theorem op_dropA {Q : yS → Prop} (h : Iv s) (H : ∀ s1, (∀ Q2 : yS → Prop, (∀ s2, Iv s2 → Q2 s2) → W_X12_dropAnswers s1 Q2) → Q s1) : W_X11_dropAnswers s Q := by
  obtain ⟨an, na, ⟨a1, a2, a3⟩, a4, a5, a6⟩ := h.gN
  unfold W_X11_dropAnswers
  intro s1 e1
  refine H s1 (fun Q2 H2 => ?_)
  unfold W_X12_dropAnswers
  intro t1 d1 t2 d2
  have F : frM (fun a i => uN a i ∨ (a = 139 ∧ i = 0)) s t2 := by
    subst d2; subst d1; subst e1
    exact ((frM.rfl'.wI (by unfold uN; omega)).wI (by unfold uN; omega)).wI (by unfold uN; omega)
  refine H2 t2 (h.answers F (an' := an) (na' := 0) ⟨⟨?_, by omega, fun i hi => absurd hi (Nat.not_lt_zero _)⟩, ?_, by omega, fun i hi => absurd hi (Nat.not_lt_zero _)⟩)
  · subst d2; rw [sI_w, if_neg (by omega)]; subst d1; rw [sI_w, if_neg (by omega)]; subst e1; rw [sI_w, if_pos ⟨rfl, rfl⟩]; rfl
  · subst d2; rw [sI_w, if_pos ⟨rfl, rfl⟩]; rfl
end

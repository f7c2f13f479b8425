section
variable {s : yS}
theorem Iv.watch {s' : yS} {pc po gp gf gs nb nt na : Nat} {B T : Nat → Nat} {W : List Nat} {ps : PS} {S : List Int32} {x : Int32} {l0 l1 : List Fn} {an : Nat → Int32} (h : iA s pc po gp gf gs ∧ iK s pc po ∧ iB s B nb ∧ iW s W ∧ iF s ∧ iP s pc T nt ps S ∧ iH s ps S x ∧ iS s gp 0 11 l0 ps S ∧ iS s gf 1 12 l1 ps S ∧ iR s ps S ∧ iN s an na) (F : frM (fun a i => uH a i ∨ dJk a i) s s') {x' : Int32} (hH' : iH s' ps S x') : Iv s' := by
  obtain ⟨hA, hK, hB, hW, hF, hP, hH, h0, h1, hR, hN⟩ := h
  have hpc := hA.1
  have h37 : (gp = 37 ∨ gp = 55 ∨ gp = 73) ∧ (gf = 37 ∨ gf = 55 ∨ gf = 73) := ⟨hA.2.2.2.2.2.2.1, hA.2.2.2.2.2.2.2.1⟩
  exact ⟨pc, po, gp, gf, gs, B, nb, W, T, nt, ps, S, x', l0, l1, an, na, hA.fr (fun i _ _ => F.2.2 _ _), hK.fr (F.sm (fun a i h => by unfold uK at h; unfold uH dJk; omega)), hB.fr (F.sm (fun a i h => by unfold uB at h; unfold uH dJk; omega)), hW.fr (F.sm (fun a i h => by unfold uW at h; unfold uH dJk; omega)), hF.fr (F.sm (fun a i h => by unfold uF at h; unfold uH dJk; omega)), hP.fr (F.sm (fun a i h => by unfold uP at h; unfold uH dJk; omega)), hH', h0.fr (F.sm (fun a i h => by unfold uS uG at h; unfold uH dJk; omega)), h1.fr (F.sm (fun a i h => by unfold uS uG at h; unfold uH dJk; omega)), hR.fr (F.sm (fun a i h => by unfold uR at h; unfold uH dJk; omega)), hN.fr (F.sm (fun a i h => by unfold uN at h; unfold uH dJk; omega))⟩
theorem op_resetW {Q : yS → Prop} (h : Iv s) (H : ∀ s1, (∀ Q2 : yS → Prop, (∀ s2, Iv s2 → Q2 s2) → W_X12_resetWatch s1 Q2) → Q s1) : W_X11_resetWatch s Q := by
  obtain ⟨pc, po, gp, gf, gs, B, nb, W, T, nt, ps, S, x, l0, l1, an, na, hh⟩ := id h
  have hm := hh.2.2.2.2.2.1.2.2.1
  have h1Q := stQ_one hm hm.head
  unfold W_X11_resetWatch W_X10_begin
  intro s1 e1
  have n1 : ∀ a i, ¬ (a = 136 ∧ i = 0) → sI s1 a i = sI s a i := fun a i h => by subst e1; rw [sI_w, if_neg h]
  have F1 : frM (fun a i => a = 136 ∧ i = 0) s s1 := by subst e1; exact frM.rfl'.wI ⟨rfl, rfl⟩
  have w1 : sI s1 136 0 = 0 := by subst e1; rw [sI_w, if_pos ⟨rfl, rfl⟩]
  refine c_fill (by omega) (fun s2 F2 v2 => H s2 (fun Q2 H2 => k_resetWatch (fun s' F' w' c' => H2 s' ?_)))
  refine Iv.watch hh (x' := 1) (((F1.mono (fun a i h => by unfold uH; omega)).trans (F2.mono (fun a i h => by unfold uH; omega))).trans (F'.mono (fun a i h => by unfold uH dJk; omega))) ⟨?_, w', h1Q.1, fun k hk => ?_, fun k hk => ⟨0, Nat.zero_le _, ?_⟩⟩
  · rw [F'.1 _ _ (by omega), F2.1 _ _ (by omega), w1, h1Q.2]; rfl
  · rw [c' k hk, F'.1 _ _ (by omega)]; exact (v2 k hk).symm
  · have := hm.2.1.1
    rw [F'.1 _ _ (by omega)]; exact v2 k (by omega)
theorem op_watch {v1 v2 v3 v4 : Int32} {Q : Int32 → yS → Prop} (h : Iv s) (H : ∀ r s1, (∀ Q2 : Int32 → yS → Prop, (∀ s2, Iv s2 → Q2 r s2) → W_X12_watchCall s1 v1 v2 v3 v4 Q2) → Q r s1) : W_X11_watchCall s v1 v2 v3 v4 Q := by
  obtain ⟨pc, po, gp, gf, gs, B, nb, W, T, nt, ps, S, x, l0, l1, an, na, hh⟩ := id h
  obtain ⟨hA, hK, hB, hW, hF, ⟨p1, p2, hm, p4, p5, p6, p7, p8, p9⟩, ⟨w1, w2, w3, w4, w5⟩, h0, h1, hR, hN⟩ := id hh
  have hpp : pc = 3 ∨ pc = 20 := by rcases hA.1 with ⟨e, _⟩ | ⟨e, _⟩ <;> omega
  have hkp : kd pc = some (7, 0) := by rcases hpp with e | e <;> (rw [e]; rfl)
  have hwf := hm.1
  have hl := hm.2.1
  have hres := hm.2.2.1
  have h6 := hl.1
  have hag := fun a b d => vOf_ag (ps := ps) (a := a) (b := b) (c := d) hl w4
  have ok206 : okR6 ps (sI s 206) := fun k hk => by
    obtain ⟨n, hn, e⟩ := w5 k hk
    exact ⟨n, hn, by rw [w4 k (by omega)]; exact e⟩
  have no : (v1 < 0 ∨ nI 16 ≤ v1) → Q (-1) s := fun hn => H _ s (fun Q2 H2 => by
    unfold W_X12_watchCall
    intro s1 e1
    have i1 : Iv s1 := by subst e1; exact h.z0
    refine ⟨fun _ => H2 _ i1, fun c1 => ⟨fun c2 => ?_, fun _ => H2 _ i1⟩⟩
    exfalso
    rcases hn with hn | hn
    · exact c1 hn
    · rw [i_leI, nI_toIntU (by omega)] at hn c2; omega)
  unfold W_X11_watchCall
  refine ⟨fun hn => no (Or.inl hn), fun hnn => ⟨fun hge => no (Or.inr hge), fun hlt => ⟨pc, hA.2.1, hkp, ?_⟩⟩⟩
  obtain ⟨c, ec, hc31⟩ : ∃ n, v1 = nI n ∧ n < 2147483648 := by rw [i_ltI] at hnn; exact nI_ofU (Int.not_lt.mp hnn)
  subst ec
  have hc : c < 16 := by rw [nI_leU (by omega) (by omega)] at hlt; omega
  have cinj : ∀ {c' : Nat}, c' < 16 → nI c = nI c' → c' = c := fun h1 h2 => ((nI_inj (by omega) (by omega)).mp h2).symm
  refine c_pass hpp (Or.inr rfl) hm p6 p5 hc w3 w1 w5 (fun hne hin s3 F3 q3 n3 => ⟨fun _ => ?_, fun hz => absurd hz (by decide)⟩) (fun h0 s3 F3 => ⟨fun hz => absurd rfl hz, fun _ => ?_⟩)
  · rw [q3]
    have e206 : sI s3 206 = sI s 206 := by funext i; exact F3.1 _ _ (by unfold dPa; omega)
    have e137 := stepP_cong (c := c) (v := vOf v2 v3 v4 (sI s 206)) (v' := vOf v2 v3 v4 (sI s 137)) hwf hl hres (hag _ _ _)
    refine H _ s3 (fun Q2 H2 => ?_)
    refine k_watchCall hm (p4.fr (fun a i ha => F3.1 _ _ (by unfold dPa; omega)) (fun a i ha => F3.2.1 _ _ (by unfold dPa; omega))) w3 ((F3.1 _ _ (by unfold dPa; omega)).trans w2) (fun hn => ?_) (fun c' hc' ec' hz => ?_) (fun c' hc' ec' hne' hin' s' F' q' n' => ?_) (fun c' hc' hne' => ?_)
    · exfalso
      rcases hn with hn | hn
      · exact hnn hn
      · exact hlt hn
    · exfalso
      rw [cinj hc' ec', e206, e137 x] at hz
      exact hne hz
    · obtain rfl := cinj hc' ec'
      rw [e206] at q' n' hin' ⊢
      rw [e137 x] at q' hin' ⊢
      refine H2 s' (Iv.watch hh (x' := stepP ps c' (vOf v2 v3 v4 (sI s 137)) x) ((F3.mono (fun a i h => by unfold dPa at h; unfold uH dJk; omega)).trans (F'.mono (fun a i h => by unfold dWk at h; unfold uH dJk; omega))) ⟨?_, q', hin', fun k hk => ?_, fun k hk => ?_⟩)
      · rw [F'.1 _ _ (by unfold dWk; omega)]; exact q3
      · rw [n' k, F'.1 _ _ (by unfold dWk; omega), n3 k, nxt_cong hwf hl hres (hag _ _ _), w4 k hk]
      · obtain ⟨n, hn, e⟩ := okR6_nxt (c := c') (v := vOf v2 v3 v4 (sI s 137)) hwf w5 k hk
        exact ⟨n, hn, by rw [F'.1 _ _ (by unfold dWk; omega), n3 k]; exact e⟩
    · rw [e206] at hne' ⊢
      exact step_in hm hc' w3 ok206 hne'
  · have i3 : Iv s3 := h.fr (F3.mono (fun a i h => by unfold dJk; omega))
    refine H _ s3 (fun Q2 H2 => ?_)
    have e206 : sI s3 206 = sI s 206 := by funext i; exact F3.1 _ _ (by omega)
    have e137 := stepP_cong (c := c) (v := vOf v2 v3 v4 (sI s 206)) (v' := vOf v2 v3 v4 (sI s 137)) hwf hl hres (hag _ _ _)
    refine k_watchCall hm (p4.fr (fun a i ha => F3.1 _ _ (by omega)) (fun a i ha => F3.2.1 _ _ (by omega))) w3 ((F3.1 _ _ (by omega)).trans w2) (fun hn => ?_) (fun c' hc' ec' hz s' F' => H2 _ (i3.fr (F'.mono (fun a i h => by unfold dJk; omega)))) (fun c' hc' ec' hne' hin' s' F' q' n' => ?_) (fun c' hc' hne' => ?_)
    · exfalso
      rcases hn with hn | hn
      · exact hnn hn
      · exact hlt hn
    · exfalso
      rw [cinj hc' ec', e206, e137 x] at hne'
      exact hne' h0
    · rw [e206] at hne' ⊢
      exact step_in hm hc' w3 ok206 hne'
theorem c_cnt {p : Nat} {ps : PS} {Q : Int32 → Prop} (h : ltF s p ps) (H : Q (nI (offs ps 16))) : W_X1_count s (p + 10) Q := by
  unfold W_X1_count
  rw [nI_ix (n := 16) (by omega), show sI s (p + 10 + 3) 16 = nI (offs ps 16) from h.2.1.1 16 (by omega)]
  exact ⟨nI_inU (by omega) (by omega), H⟩
theorem op_wayOf {v1 v2 : Int32} {Q : Int32 → Prop} (h : Iv s) (H : ∀ r, (∀ Q2 : Int32 → yS → Prop, (∀ s2, Iv s2 → Q2 r s2) → W_X12_wayOf s v1 v2 Q2) → Q r) : W_X11_wayOf s v1 v2 Q := by
  obtain ⟨pc, po, gp, gf, gs, B, nb, W, T, nt, ps, S, x, l0, l1, an, na, hh⟩ := id h
  obtain ⟨hA, hK, hB, hW, hF, ⟨p1, p2, hm, p4, p5, p6, p7, p8, p9⟩, hH, h0, h1, hR, hN⟩ := id hh
  have hpp : pc = 3 ∨ pc = 20 := by rcases hA.1 with ⟨e, _⟩ | ⟨e, _⟩ <;> omega
  have hkp : kd pc = some (7, 0) := by rcases hpp with e | e <;> (rw [e]; rfl)
  have ho := p5.1.1
  have hn63 := p5.2.2.1.2.1
  have c56 : sI s 139 56 = nI (nn ps S) := p4.2.2.2.1.2.2.2.1
  have c47 : sI s 139 47 = nI (offs ps 16) := p4.2.2.2.1.2.2.2.2.1
  have bad : (v1 < 0 ∨ nI (nn ps S) ≤ v1 ∨ v2 < 0 ∨ ¬ v2 < nI (offs ps 16)) → Q (-1) := fun hb => H _ (fun Q2 H2 => by
    unfold W_X12_wayOf
    intro s1 e1
    have i1 : Iv s1 := by subst e1; exact h.z0
    rw [zf e1 139 56 (by omega), c56, zf e1 139 47 (by omega), c47]
    refine ⟨fun _ => H2 _ i1, fun c1 => ⟨fun _ => H2 _ i1, fun c2 => ⟨fun _ => H2 _ i1, fun c3 => ⟨fun c4 => ?_, fun _ => H2 _ i1⟩⟩⟩⟩
    exfalso
    rcases hb with hb | hb | hb | hb
    · exact c1 hb
    · exact c2 hb
    · exact c3 hb
    · exact hb c4)
  unfold W_X11_wayOf
  refine ⟨fun hn => bad (Or.inl hn), fun hnn => ⟨pc, hA.2.1, hkp, ?_⟩⟩
  rw [p5.2.2.1.2.2.2.1]
  refine ⟨fun hle => bad (Or.inr (Or.inl hle)), fun hgt => ⟨fun hn => bad (Or.inr (Or.inr (Or.inl hn))), fun hnn2 => ⟨pc, hA.2.1, hkp, c_cnt p5.1 ⟨fun hlt => ⟨pc, hA.2.1, hkp, ?_⟩, fun hge => bad (Or.inr (Or.inr (Or.inr hge)))⟩⟩⟩⟩
  obtain ⟨n, en, hn31⟩ : ∃ n, v1 = nI n ∧ n < 2147483648 := by rw [i_ltI] at hnn; exact nI_ofU (Int.not_lt.mp hnn)
  obtain ⟨m, em, hm31⟩ : ∃ m, v2 = nI m ∧ m < 2147483648 := by rw [i_ltI] at hnn2; exact nI_ofU (Int.not_lt.mp hnn2)
  subst en; subst em
  have q1 : n < nn ps S := by rw [nI_leU (by omega) (by omega)] at hgt; omega
  have q2 : m < offs ps 16 := by rw [nI_ltU (by omega) (by omega)] at hlt; omega
  rw [nI_mul, nI_addU, nI_ix (n := n * 512 + m) (by omega), (p5.2.2.1.2.2.2.2 n m q1 q2).1]
  refine ⟨nI_inU (by omega) (by omega), H _ (fun Q2 H2 => ?_)⟩
  unfold W_X12_wayOf
  intro s1 e1
  have i1 : Iv s1 := by subst e1; exact h.z0
  rw [zf e1 139 56 (by omega), c56, zf e1 139 47 (by omega), c47]
  exact ⟨fun hz => absurd hz hnn, fun _ => ⟨fun hz => absurd hz hgt, fun _ => ⟨fun hz => absurd hz hnn2, fun _ => ⟨fun _ => k_goes (p4.z e1).2.2.2.1 q1 q2 (H2 _ i1), fun hz => absurd hlt hz⟩⟩⟩⟩
theorem op_letterOf {v1 v2 : Int32} {Q : Int32 → Prop} (h : Iv s) (H : ∀ r, (∀ Q2 : Int32 → yS → Prop, (∀ s2, Iv s2 → Q2 r s2) → W_X12_letterOf s v1 v2 Q2) → Q r) : W_X11_letterOf s v1 v2 Q := by
  obtain ⟨pc, po, gp, gf, gs, B, nb, W, T, nt, ps, S, x, l0, l1, an, na, hh⟩ := id h
  obtain ⟨hA, hK, hB, hW, hF, ⟨p1, p2, hm, p4, p5, p6, p7, p8, p9⟩, hH, h0, h1, hR, hN⟩ := id hh
  have hpp : pc = 3 ∨ pc = 20 := by rcases hA.1 with ⟨e, _⟩ | ⟨e, _⟩ <;> omega
  have hkp : kd pc = some (7, 0) := by rcases hpp with e | e <;> (rw [e]; rfl)
  have ho := p5.1.1
  have c47 : sI s 139 47 = nI (offs ps 16) := p4.2.2.2.1.2.2.2.2.1
  have bad : (v1 < 0 ∨ nI (offs ps 16) ≤ v1 ∨ v2 < 0 ∨ ¬ v2 ≤ nI 9) → Q 0 := fun hb => H _ (fun Q2 H2 => by
    unfold W_X12_letterOf
    intro s1 e1
    have i1 : Iv s1 := by subst e1; exact h.z0
    rw [zf e1 139 47 (by omega), c47]
    refine ⟨fun _ => H2 _ i1, fun c1 => ⟨fun _ => H2 _ i1, fun c2 => ⟨fun _ => H2 _ i1, fun c3 => ⟨fun c4 => ?_, fun _ => H2 _ i1⟩⟩⟩⟩
    exfalso
    rcases hb with hb | hb | hb | hb
    · exact c1 hb
    · exact c2 hb
    · exact c3 hb
    · exact hb c4)
  unfold W_X11_letterOf
  refine ⟨fun hn => bad (Or.inl hn), fun hnn => ⟨pc, hA.2.1, hkp, c_cnt p5.1 ⟨fun hle => bad (Or.inr (Or.inl hle)), fun hgt => ⟨fun hn => bad (Or.inr (Or.inr (Or.inl hn))), fun hnn2 => ⟨fun hle9 => ?_, fun hgt9 => bad (Or.inr (Or.inr (Or.inr hgt9)))⟩⟩⟩⟩⟩
  obtain ⟨n, en, hn31⟩ : ∃ n, v1 = nI n ∧ n < 2147483648 := by rw [i_ltI] at hnn; exact nI_ofU (Int.not_lt.mp hnn)
  obtain ⟨m, em, hm31⟩ : ∃ m, v2 = nI m ∧ m < 2147483648 := by rw [i_ltI] at hnn2; exact nI_ofU (Int.not_lt.mp hnn2)
  subst en; subst em
  have q1 : n < offs ps 16 := by rw [nI_leU (by omega) (by omega)] at hgt; omega
  have q2 : m ≤ 9 := by rw [nI_leU (by omega) (by omega)] at hle9; omega
  obtain ⟨c, i, hc, hi, en⟩ := let_of q1
  have hlt := (p4.2.1.2 c i (Or.inl ⟨hc, hi⟩))
  rw [← en] at hlt
  have m0 : nI m = 0 ↔ m = 0 := nI_inj (b := 0) (by omega) (by omega)
  rw [m0]
  have good : ∀ r, (m = 0 → r = nI c) → (¬ m = 0 → r = Int32.ofInt (low ps c i (m - 1))) → Q r := fun r ha hb => H r (fun Q2 H2 => by
    unfold W_X12_letterOf
    intro s1 e1
    have i1 : Iv s1 := by subst e1; exact h.z0
    rw [zf e1 139 47 (by omega), c47, m0, nI_ix (n := n) (by omega), zf e1 165 _ (by omega), hlt.1]
    refine ⟨fun hz => absurd hz hnn, fun _ => ⟨fun hz => absurd hz hgt, fun _ => ⟨fun hz => absurd hz hnn2, fun _ => ⟨fun _ => ⟨fun hne => ?_, fun heq => ⟨nI_inU (by omega) (by omega), by rw [← ha heq]; exact H2 _ i1⟩⟩, fun hz => absurd hle9 hz⟩⟩⟩⟩
    rw [nI_mul, nI_addU, nI_p (by omega), nI_ix (n := 9 * n + m - 1) (by omega), zf e1 166 _ (by omega), show 9 * n + m - 1 = 9 * n + (m - 1) by omega, hlt.2 (m - 1) (by omega), ← hb hne]
    exact ⟨nI_inU (by omega) (by omega), H2 _ i1⟩)
  refine ⟨fun hne => ⟨pc, hA.2.1, hkp, ?_⟩, fun heq => ⟨pc, hA.2.1, hkp, ?_⟩⟩
  · rw [nI_p (by omega), en]
    exact c_leastAt p5.1 hm.1 hm.2.2.1 hc hi (by omega) (good _ (fun hz => absurd hz hne) (fun _ => rfl))
  · rw [en]
    exact c_callAt p5.1 hc hi (good _ (fun _ => rfl) (fun hz => absurd heq hz))
end

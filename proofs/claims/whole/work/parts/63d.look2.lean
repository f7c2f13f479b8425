section
variable {s : yS}
/-- where the reference finds a set -/
theorem k_idx {ps : PS} {S : List Int32} {x : Int32} {P : Int32 → Prop} (hm : mkd ps S) (hpl : plM s ps S) (hx : inQ ps S x) (H : P (nI (stQ ps S x))) : W_X12_indexOf s x (fun r => vp_in r 64 ∧ P (sI s 173 (ix r))) := by
  have h63 := hm.2.2.2.2.2.2.1
  refine k_indexOf hpl.2.2.1 (by omega) ?_
  rw [if_pos hx.1]
  have hik := List.idxOf_lt_length_of_mem hx.1
  have so : sI s 173 (S.idxOf x) = nI (stQ ps S x) := hpl.2.2.2.2.1 _ hik hx.2
  rw [nI_ix (n := S.idxOf x) (by omega), so]
  exact ⟨nI_inU (by omega) (by omega), H⟩
theorem zf {t : yS} (e : t = wI s 139 0 0) : ∀ a i, ¬ (a = 139 ∧ i = 0) → sI t a i = sI s a i := fun a i h => by subst e; rw [sI_w, if_neg h]
theorem plM.z {t : yS} {ps : PS} {S : List Int32} (h : plM s ps S) (e : t = wI s 139 0 0) : plM t ps S := h.fr (fun a i ha => zf e a i (by omega)) (fun a i ha => by subst e; rfl)
theorem op_endOf {v1 : Int32} {Q : Int32 → Prop} (h : Iv s) (H : ∀ r, (∀ Q2 : Int32 → yS → Prop, (∀ s2, Iv s2 → Q2 r s2) → W_X12_endOf s v1 Q2) → Q r) : W_X11_endOf s v1 Q := by
  obtain ⟨pc, po, gp, gf, gs, B, nb, W, T, nt, ps, S, x, l0, l1, an, na, hA, hK, hB, hW, hF, hP, hH, h0, h1, hR, hN⟩ := id h
  unfold W_X11_endOf W_X2_hasRun
  rw [show ix 0 = 0 from rfl]
  rcases hR with ⟨r1, r2⟩ | ⟨r1, z, hh, v, r2, r3, ⟨r4, r4b, r4c⟩, r5, r6, r7, r8, r9⟩
  · have no : Q (-1) := H _ (fun Q2 H2 => by
      unfold W_X12_endOf
      intro s1 e1
      rw [zf e1 139 89 (by omega), r2]
      exact ⟨fun hz => absurd rfl hz, fun _ => H2 _ (by subst e1; exact h.z0)⟩)
    exact ⟨nI_inU (a := 0) (by omega) (by omega), fun _ => ⟨fun _ => no, fun hz => absurd rfl hz⟩, fun hz => absurd r1 hz⟩
  · have hne : ¬ sI s 124 0 = -1 := by rw [r4b]; exact nI_ne1 (by omega)
    -- the reference's answers
    have key : ∀ r, (v1.toInt < 0 ∨ 7 < v1.toInt → r = -1) → (v1.toInt = 0 → r = nI hh) → (v1.toInt = 1 → r = v) → (v1.toInt = 2 → r = nI (aS z)) → (v1.toInt = 3 → r = nI (aO z)) → (v1.toInt = 4 → r = nI (aP z)) → (v1.toInt = 5 → r = nI (stQ ps S (aX z))) → (v1.toInt = 6 → r = nI (aU z)) → (v1.toInt = 7 → r = nI (aD z)) → Q r := by
      intro r k0 k1 k2 k3 k4 k5 k6 k7 k8
      refine H r (fun Q2 H2 => ?_)
      unfold W_X12_endOf
      intro s1 e1
      have m1 := zf e1
      have i1 : Iv s1 := by subst e1; exact h.z0
      have go : ∀ y, r = y → Q2 y s1 := fun y hy => by rw [← hy]; exact H2 _ i1
      rw [m1 139 89 (by omega), r1, m1 139 90 (by omega), r7, m1 139 91 (by omega), r8, m1 139 92 (by omega), r6.2.1.1, m1 139 93 (by omega), r6.2.1.2.1, m1 139 94 (by omega), r6.2.1.2.2, m1 139 97 (by omega), r6.2.2.1.1, m1 139 95 (by omega), r6.1.1, m1 139 96 (by omega), r9]
      refine ⟨fun _ => ⟨fun c => go _ (k0 c), fun c => go _ (k1 c), fun c => go _ (k2 c), fun c => go _ (k3 c), fun c => go _ (k4 c), fun c => go _ (k5 c), fun c => ?_, fun c => go _ (k7 c), fun c => go _ (k8 c)⟩, fun hz => absurd hz (by decide)⟩
      exact k_idx (P := fun y => Q2 y s1) hP.2.2.1 (hP.2.2.2.1.z e1) r6.2.2.1.2.1 (go _ (k6 c))
    have bad : (v1.toInt < 0 ∨ 7 < v1.toInt) → Q (-1) := fun hb => key _ (fun _ => rfl) (fun c => by omega) (fun c => by omega) (fun c => by omega) (fun c => by omega) (fun c => by omega) (fun c => by omega) (fun c => by omega) (fun c => by omega)
    refine ⟨nI_inU (a := 0) (by omega) (by omega), fun hz => absurd hz hne, fun _ => ⟨fun hz => absurd hz (by decide), fun _ => ⟨fun hn => bad (Or.inl ?_), fun hnn => ⟨fun h8 => bad (Or.inr ?_), fun hn8 => ?_⟩⟩⟩⟩
    · rw [i_ltI] at hn; exact hn
    · rw [i_leI, nI_toIntU (by omega)] at h8; omega
    · rw [i_leI, nI_toIntU (by omega)] at hn8
      rw [i_ltI, show (0 : Int32).toInt = 0 from rfl] at hnn
      obtain ⟨n, en, hn31⟩ := nI_ofU (x := v1) (by omega)
      have hti : v1.toInt = n := by rw [en, nI_toIntU hn31]
      have hn7 : n < 8 := by omega
      rw [en, nI_ix hn31]
      refine ⟨nI_inU (by omega) (by omega), key _ (fun c => by omega) (fun c => ?_) (fun c => ?_) (fun c => ?_) (fun c => ?_) (fun c => ?_) (fun c => ?_) (fun c => ?_) (fun c => ?_)⟩
      · obtain rfl : n = 0 := by omega
        exact r4b
      · obtain rfl : n = 1 := by omega
        exact r4c
      · obtain rfl : n = 2 := by omega
        exact r4.2.1.1
      · obtain rfl : n = 3 := by omega
        exact r4.2.1.2.1
      · obtain rfl : n = 4 := by omega
        exact r4.2.1.2.2.1
      · obtain rfl : n = 5 := by omega
        exact r5
      · obtain rfl : n = 6 := by omega
        exact r4.1.1
      · obtain rfl : n = 7 := by omega
        exact r4.2.1.2.2.2
theorem op_traceAt {v1 v2 : Int32} {Q : Int32 → Prop} (h : Iv s) (H : ∀ r, (∀ Q2 : Int32 → yS → Prop, (∀ s2, Iv s2 → Q2 r s2) → W_X12_traceAt s v1 v2 Q2) → Q r) : W_X11_traceAt s v1 v2 Q := by
  obtain ⟨pc, po, gp, gf, gs, B, nb, W, T, nt, ps, S, x, l0, l1, an, na, hA, hK, hB, hW, hF, hP, hH, h0, h1, hR, hN⟩ := id h
  unfold W_X11_traceAt W_X2_hasRun
  rw [show ix 0 = 0 from rfl]
  rcases hR with ⟨r1, r2⟩ | ⟨r1, z, hh, v, r2, r3, ⟨r4, r4b, r4c⟩, r5, r6, r7, r8, r9⟩
  · have no : Q 0 := H _ (fun Q2 H2 => by
      unfold W_X12_traceAt
      intro s1 e1
      rw [zf e1 139 89 (by omega), r2]
      exact ⟨fun _ => H2 _ (by subst e1; exact h.z0), fun hz => absurd rfl hz⟩)
    exact ⟨nI_inU (a := 0) (by omega) (by omega), fun _ => ⟨fun _ => no, fun hz => absurd rfl hz⟩, fun hz => absurd r1 hz⟩
  · have hne : ¬ sI s 124 0 = -1 := by rw [r4b]; exact nI_ne1 (by omega)
    have bad : (v1 < 0 ∨ nI (aO z) ≤ v1 ∨ nI 255 < v1 ∨ v2 < 0 ∨ ¬ v2 ≤ nI 4) → Q 0 := fun hb => H _ (fun Q2 H2 => by
      unfold W_X12_traceAt
      intro s1 e1
      have i1 : Iv s1 := by subst e1; exact h.z0
      rw [zf e1 139 89 (by omega), r1, zf e1 139 93 (by omega), r6.2.1.2.1]
      refine ⟨fun _ => H2 _ i1, fun _ => ⟨fun _ => H2 _ i1, fun c1 => ⟨fun _ => H2 _ i1, fun c2 => ⟨fun _ => H2 _ i1, fun c3 => ⟨fun _ => H2 _ i1, fun c4 => ⟨fun c5 => ?_, fun _ => H2 _ i1⟩⟩⟩⟩⟩⟩
      exfalso
      rcases hb with hb | hb | hb | hb | hb
      · exact c1 hb
      · exact c2 hb
      · exact c3 hb
      · exact c4 hb
      · exact hb c5)
    refine ⟨nI_inU (a := 0) (by omega) (by omega), fun hz => absurd hz hne, fun _ => ⟨fun hz => absurd hz (by decide), fun _ => ?_⟩⟩
    unfold W_X2_traced
    intro P26 hP26
    have p0 : (v1 < 0 ∨ nI (aO z) ≤ v1 ∨ nI 255 < v1) → P26 0 := fun hb => hP26 0 ⟨fun _ => bad (by rcases hb with hb | hb | hb; exact Or.inl hb; exact Or.inr (Or.inl hb); exact Or.inr (Or.inr (Or.inl hb))), fun hz => absurd rfl hz⟩
    refine ⟨fun hn => p0 (Or.inl hn), fun hnn => ⟨fun hge => p0 (Or.inr (Or.inr ?_)), fun hlt => ⟨nI_inU (by omega) (by omega), ?_⟩⟩⟩
    · rw [i_leI, nI_toIntU (by omega)] at hge
      rw [i_ltI, nI_toIntU (by omega)]; omega
    rw [nI_ix (n := 3) (by omega), r4.2.1.2.1]
    refine ⟨fun hle => p0 (Or.inr (Or.inl hle)), fun hgt => hP26 1 ⟨fun hz => absurd hz (by decide), fun _ => ⟨fun hn2 => bad (Or.inr (Or.inr (Or.inr (Or.inl hn2)))), fun hnn2 => ⟨fun hge => bad (Or.inr (Or.inr (Or.inr (Or.inr ?_)))), fun hlt2 => ?_⟩⟩⟩⟩
    · rw [i_leI, nI_toIntU (by omega)] at hge
      rw [i_leI, nI_toIntU (by omega)]; omega
    obtain ⟨n, en, hn31⟩ : ∃ n, v1 = nI n ∧ n < 2147483648 := by rw [i_ltI] at hnn; exact nI_ofU (Int.not_lt.mp hnn)
    obtain ⟨m, em, hm31⟩ : ∃ m, v2 = nI m ∧ m < 2147483648 := by rw [i_ltI] at hnn2; exact nI_ofU (Int.not_lt.mp hnn2)
    subst en; subst em
    have q1 : n < 256 := by rw [nI_leU (by omega) (by omega)] at hlt; omega
    have q2 : m < 5 := by rw [nI_leU (by omega) (by omega)] at hlt2; omega
    have q3 : n < aO z := by rw [nI_leU (by omega) (by omega)] at hgt; omega
    rw [nI_mul, nI_addU, nI_ix (n := n * 5 + m) (by omega), r4.2.2.2 _ (by omega) (by omega)]
    refine ⟨nI_inU (by omega) (by omega), H _ (fun Q2 H2 => ?_)⟩
    unfold W_X12_traceAt
    intro s1 e1
    have i1 : Iv s1 := by subst e1; exact h.z0
    rw [zf e1 139 89 (by omega), r1, zf e1 139 93 (by omega), r6.2.1.2.1, nI_mul, nI_addU, nI_ix (n := 5 * n + m) (by omega), zf e1 207 _ (by omega), r6.2.2.2 _ (by omega) (by omega), nI_leU (by omega) (by omega), nI_ltU (by omega) (by omega), nI_leU (by omega) (by omega)]
    refine ⟨fun hz => absurd hz (by decide), fun _ => ⟨fun hz => absurd hz hnn, fun _ => ⟨fun hz => by omega, fun _ => ⟨fun hz => by omega, fun _ => ⟨fun hz => absurd hz hnn2, fun _ => ⟨fun _ => ⟨nI_inU (by omega) (by omega), ?_⟩, fun hz => by omega⟩⟩⟩⟩⟩⟩
    rw [show 5 * n + m = n * 5 + m by omega]; exact H2 _ i1
theorem op_counterOf {v1 v2 : Int32} {Q : Int32 → Prop} (h : Iv s) (H : ∀ r, (∀ Q2 : Int32 → yS → Prop, (∀ s2, Iv s2 → Q2 r s2) → W_X12_counterOf s v1 v2 Q2) → Q r) : W_X11_counterOf s v1 v2 Q := by
  obtain ⟨pc, po, gp, gf, gs, B, nb, W, T, nt, ps, S, x, l0, l1, an, na, hA, hK, hB, hW, hF, hP, hH, h0, h1, hR, hN⟩ := id h
  have hl6 := hP.2.2.1.2.1.1
  have hkp : kd pc = some (7, 0) := by rcases hA.1 with ⟨e, _⟩ | ⟨e, _⟩ <;> (rw [e]; rfl)
  have c19 : sI s 139 19 = nI (pC ps).length := hP.2.2.2.1.1.1.1
  -- the reference's answer
  have bad : (v1 < 0 ∨ nI (pC ps).length ≤ v1 ∨ (v2 = 0 ∧ sI s 139 89 = 0)) → Q (-1) := fun hb => H _ (fun Q2 H2 => by
    unfold W_X12_counterOf
    intro s1 e1
    have i1 : Iv s1 := by subst e1; exact h.z0
    rw [zf e1 139 19 (by omega), c19, zf e1 139 89 (by omega)]
    refine ⟨fun _ => H2 _ i1, fun c1 => ⟨fun _ => H2 _ i1, fun c2 => ?_⟩⟩
    intro P30 hP30
    refine ⟨fun c3 => ?_, fun c3 => ⟨fun c4 => ?_, fun _ => H2 _ i1⟩⟩
    · exfalso
      rcases hb with hb | hb | hb
      · exact c1 hb
      · exact c2 hb
      · exact c3 hb.1
    · exfalso
      rcases hb with hb | hb | hb
      · exact c1 hb
      · exact c2 hb
      · exact c4 hb.2)
  unfold W_X11_counterOf
  refine ⟨fun hn => bad (Or.inl hn), fun hnn => ⟨pc, hA.2.1, hkp, ?_⟩⟩
  rw [hP.2.2.2.2.2.2.2.1]
  refine ⟨fun hle => bad (Or.inr (Or.inl hle)), fun hgt => ?_⟩
  obtain ⟨n, en, hn31⟩ : ∃ n, v1 = nI n ∧ n < 2147483648 := by rw [i_ltI] at hnn; exact nI_ofU (Int.not_lt.mp hnn)
  subst en
  have hn6 : n < (pC ps).length := by rw [nI_leU (by omega) (by omega)] at hgt; omega
  have hin : vp_in (nI n) 6 := nI_inU (by omega) (by omega)
  have good : ∀ r, (v2 = 0 → ¬ sI s 139 89 = 0 ∧ r = sI s 205 n) → (¬ v2 = 0 → r = sI s 206 n) → Q r := fun r ha hb => H r (fun Q2 H2 => by
    unfold W_X12_counterOf
    intro s1 e1
    have i1 : Iv s1 := by subst e1; exact h.z0
    rw [zf e1 139 19 (by omega), c19, zf e1 139 89 (by omega), nI_ix (n := n) (by omega), zf e1 205 _ (by omega), zf e1 206 _ (by omega)]
    refine ⟨fun hz => absurd hz hnn, fun _ => ⟨fun hz => absurd hz hgt, fun _ => ?_⟩⟩
    intro P30 hP30
    have p30 : P30 := hP30 ⟨fun c => ⟨hin, by rw [← (ha c).2]; exact H2 _ i1⟩, fun c => ⟨hin, by rw [← hb c]; exact H2 _ i1⟩⟩
    exact ⟨fun _ => p30, fun c => ⟨fun _ => p30, fun hz => absurd hz (ha c).1⟩⟩)
  intro P31 hP31
  rw [nI_ix (n := n) (by omega)] at hP31
  refine ⟨fun hne => hP31 ⟨fun hz => absurd hz hne, fun _ => ⟨hin, good _ (fun hz => absurd hz hne) (fun _ => (hH.2.2.2.1 n (by omega)).symm)⟩⟩, fun heq => ?_⟩
  unfold W_X2_hasRun
  rw [show ix 0 = 0 from rfl]
  refine ⟨nI_inU (a := 0) (by omega) (by omega), ?_⟩
  rcases hR with ⟨r1, r2⟩ | ⟨r1, z, hh, v, r2, r3, ⟨r4, r4b, r4c⟩, r5, r6, r7, r8, r9⟩
  · exact ⟨fun _ => ⟨fun hz => absurd rfl hz, fun _ => bad (Or.inr (Or.inr ⟨heq, r2⟩))⟩, fun hz => absurd r1 hz⟩
  · have hne : ¬ sI s 124 0 = -1 := by rw [r4b]; exact nI_ne1 (by omega)
    refine ⟨fun hz => absurd hz hne, fun _ => ⟨fun _ => hP31 ⟨fun _ => ⟨hin, good _ (fun _ => ⟨by rw [r1]; decide, ?_⟩) (fun hz => absurd heq hz)⟩, fun hz => absurd heq hz⟩, fun hz => absurd hz (by decide)⟩⟩
    rw [r4.2.2.1.2.2.1 n (by omega), r6.2.2.1.2.2.1 n (by omega)]
end

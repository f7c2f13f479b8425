def gb (v : Int64) (x : Nat) : Nat := bv (v >>> ((nI (8 * x)).toInt64 &&& 63)).toInt32
def gvB (B : Nat → Nat) (nb : Nat) (v : Int64) (n : Nat) (k : Nat) : Nat := if k < nb then B k else gb v (n - 1 - (k - nb))
section
variable {s : yS} {B : Nat → Nat} {nb : Nat}
theorem gvB_lt {v : Int64} {n : Nat} (h : ∀ k, B k < 256) (k : Nat) : gvB B nb v n k < 256 := by
  unfold gvB; split
  · exact h k
  · exact bv_lt _
theorem c_give {v : Int64} {v2 : Int32} {Q : Int32 → yS → Prop} (h : byC s B nb)
    (H0 : (v2 < 1 ∨ nI 8 < v2 ∨ ¬ nI nb + v2 ≤ nI 8192) → Q 0 s)
    (H1 : ∀ n, 1 ≤ n → n ≤ 8 → v2 = nI n → nb + n ≤ 8192 → ∀ s', frM (fun a i => a = 1 ∨ (a = 0 ∧ i = 2)) s s' → byC s' (gvB B nb v n) (nb + n) → Q 1 s') : W_X11_giveBytes s v v2 Q := by
  obtain ⟨⟨h8, hb, hl⟩, hc⟩ := h
  unfold W_X11_giveBytes
  refine ⟨fun h => H0 (Or.inl h), fun h1 => ⟨fun h => H0 (Or.inr (Or.inl h)), fun h2 => ?_⟩⟩
  obtain ⟨n, en, hn31⟩ : ∃ n, v2 = nI n ∧ n < 2147483648 := by
    have := h1
    rw [i_ltI, show (1 : Int32).toInt = 1 from rfl] at this
    exact nI_ofU (by omega)
  subst en
  rw [nI_ltU (by omega) (by omega)] at h2
  rw [nI_1U, nI_ltU (by omega) (by omega)] at h1
  rw [nI_addU, nI_leU (by omega) (by omega)] at H0
  rw [hc, nI_sub (by omega), nI_leU (by omega) (by omega)]
  refine ⟨fun hle => ?_, fun hgt => H0 (Or.inr (Or.inr (by omega)))⟩
  have H1 := H1 n (by omega) (by omega) rfl (by omega)
  intro P30 hP30 x7 e7
  suffices hL : ∀ (k j : Nat) (x : Int32) (t : yS), j + k = n → x = nI k - 1 → frM (fun a i => a = 1 ∨ (a = 0 ∧ i = 2)) s t → sI t 0 2 = nI (nb + j) → (∀ i, i < nb + j → sI t 1 i = bC (gvB B nb v n i)) → P30 x t from
    hL n 0 x7 s (Nat.zero_add _) e7 frM.rfl' hc (fun i hi => by unfold gvB; rw [if_pos (by omega)]; exact hb i (by omega))
  intro k
  induction k with
  | zero =>
    intro j x t hj ex Ft ct bt
    obtain rfl : j = n := by omega
    subst ex
    apply hP30
    exact ⟨fun _ => H1 t Ft ⟨⟨by omega, bt, gvB_lt hl⟩, ct⟩, fun hz => absurd (by decide) hz⟩
  | succ k ih =>
    intro j x t hj ex Ft ct bt
    rw [nI_p (by omega), Nat.add_sub_cancel] at ex
    subst ex
    apply hP30
    refine ⟨fun hz => absurd hz (by rw [nI_0U, nI_ltU (by omega) (by omega)]; omega), fun _ => ?_⟩
    rw [ct, nI_ix (n := nb + j) (by omega), nI_mul, nar8]
    refine ⟨nI_inU (by omega) (by omega), ?_⟩
    intro s4 e4
    have c4 : sI s4 0 2 = nI (nb + j) := by subst e4; rw [sI_w, if_neg (by omega)]; exact ct
    rw [c4, nI_s]
    intro s5 e5 x6 e6
    refine ih (j + 1) x6 s5 (by omega) (by rw [e6, Int32.sub_eq_add_neg]) ?_ (by subst e5; rw [sI_w, if_pos ⟨rfl, rfl⟩]; rfl) (fun i hi => ?_)
    · subst e5; subst e4; exact (Ft.wI (by omega)).wI (by omega)
    · subst e5; rw [sI_w, if_neg (by omega)]; subst e4; rw [sI_w]
      by_cases c : i = nb + j
      · subst c
        rw [if_pos ⟨rfl, rfl⟩]
        unfold gvB gb
        rw [if_neg (by omega), show n - 1 - (nb + j - nb) = k by omega]
      · rw [if_neg (fun h => c h.2)]; exact bt i (by omega)
theorem k_give {v : Int64} {v2 : Int32} {Q : Int32 → yS → Prop} (h : byM s B nb)
    (H0 : (v2 < 1 ∨ nI 8 < v2 ∨ ¬ nI nb + v2 ≤ nI 8192) → Q 0 (wI s 139 0 0))
    (H1 : ∀ n, 1 ≤ n → n ≤ 8 → v2 = nI n → nb + n ≤ 8192 → ∀ s', frM (fun a i => a = 140 ∨ (a = 139 ∧ (i = 0 ∨ i = 2))) s s' → byM s' (gvB B nb v n) (nb + n) → Q 1 s') : W_X12_giveBytes s v v2 Q := by
  obtain ⟨h8, hc, hb, hl⟩ := h
  unfold W_X12_giveBytes
  intro s1 e1
  have n1 : ∀ a i, ¬ (a = 139 ∧ i = 0) → sI s1 a i = sI s a i := fun a i h => by subst e1; rw [sI_w, if_neg h]
  have F1 : frM (fun a i => a = 140 ∨ (a = 139 ∧ (i = 0 ∨ i = 2))) s s1 := by subst e1; exact frM.rfl'.wI (by omega)
  rw [← e1] at H0
  refine ⟨fun h => H0 (Or.inl h), fun h1 => ⟨fun h => H0 (Or.inr (Or.inl h)), fun h2 => ?_⟩⟩
  obtain ⟨n, en, hn31⟩ : ∃ n, v2 = nI n ∧ n < 2147483648 := by
    have := h1
    rw [i_ltI, show (1 : Int32).toInt = 1 from rfl] at this
    exact nI_ofU (by omega)
  subst en
  rw [nI_ltU (by omega) (by omega)] at h2
  rw [nI_1U, nI_ltU (by omega) (by omega)] at h1
  rw [n1 139 2 (by omega), hc]
  refine ⟨fun hle => ?_, fun hgt => H0 (Or.inr (Or.inr hgt))⟩
  rw [nI_addU, nI_leU (by omega) (by omega)] at hle
  have H1 := H1 n (by omega) (by omega) rfl (by omega)
  intro P35 hP35 x8 e8
  suffices hL : ∀ (k j : Nat) (x : Int32) (t : yS), j + k = n → x = nI k - 1 → frM (fun a i => a = 140 ∨ (a = 139 ∧ (i = 0 ∨ i = 2))) s t → sI t 139 2 = nI (nb + j) → (∀ i, i < nb + j → sI t 140 i = nI (gvB B nb v n i)) → P35 x t from
    hL n 0 x8 s1 (Nat.zero_add _) e8 F1 ((n1 _ _ (by omega)).trans hc) (fun i hi => by unfold gvB; rw [if_pos (by omega), n1 _ _ (by omega)]; exact hb i (by omega))
  intro k
  induction k with
  | zero =>
    intro j x t hj ex Ft ct bt
    obtain rfl : j = n := by omega
    subst ex
    apply hP35
    exact ⟨fun _ => H1 t Ft ⟨by omega, ct, bt, gvB_lt hl⟩, fun hz => absurd (by decide) hz⟩
  | succ k ih =>
    intro j x t hj ex Ft ct bt
    rw [nI_p (by omega), Nat.add_sub_cancel] at ex
    subst ex
    apply hP35
    refine ⟨fun hz => absurd hz (by rw [nI_0U, nI_ltU (by omega) (by omega)]; omega), fun _ => ?_⟩
    rw [ct, nI_ix (n := nb + j) (by omega), nI_mul, j255]
    refine ⟨nI_inU (by omega) (by omega), ?_⟩
    intro s4 e4
    have c4 : sI s4 139 2 = nI (nb + j) := by subst e4; rw [sI_w, if_neg (by omega)]; exact ct
    rw [c4, nI_s]
    intro s5 e5 x6 e6
    refine ih (j + 1) x6 s5 (by omega) (by rw [e6, Int32.sub_eq_add_neg]) ?_ (by subst e5; rw [sI_w, if_pos ⟨rfl, rfl⟩]; rfl) (fun i hi => ?_)
    · subst e5; subst e4; exact (Ft.wI (by omega)).wI (by omega)
    · subst e5; rw [sI_w, if_neg (by omega)]; subst e4; rw [sI_w]
      by_cases c : i = nb + j
      · subst c
        rw [if_pos ⟨rfl, rfl⟩]
        unfold gvB gb
        rw [if_neg (by omega), show n - 1 - (nb + j - nb) = k by omega]
      · rw [if_neg (fun h => c h.2)]; exact bt i (by omega)
/-- only bytes change -/
theorem Iv.bytes {s s' : yS} (h : Iv s) (F : frM (fun a i => uB a i ∨ (a = 139 ∧ i = 0)) s s') {B' : Nat → Nat} {nb' : Nat} (hB' : iB s' B' nb') : Iv s' := by
  obtain ⟨pc, po, gp, gf, gs, B, nb, W, T, nt, ps, S, x, l0, l1, an, na, hA, hK, hB, hW, hF, hP, hH, h0, h1, hR, hN⟩ := h
  have hpc := hA.1
  have h37 : (gp = 37 ∨ gp = 55 ∨ gp = 73) ∧ (gf = 37 ∨ gf = 55 ∨ gf = 73) := ⟨hA.2.2.2.2.2.2.1, hA.2.2.2.2.2.2.2.1⟩
  exact ⟨pc, po, gp, gf, gs, B', nb', W, T, nt, ps, S, x, l0, l1, an, na, hA.fr (fun i _ _ => F.2.2 _ _), hK.fr (F.sm (fun a i h => by unfold uK at h; unfold uB; omega)), hB', hW.fr (F.sm (fun a i h => by unfold uW at h; unfold uB; omega)), hF.fr (F.sm (fun a i h => by unfold uF at h; unfold uB; omega)), hP.fr (F.sm (fun a i h => by unfold uP at h; unfold uB; omega)), hH.fr (F.sm (fun a i h => by unfold uH at h; unfold uB; omega)), h0.fr (F.sm (fun a i h => by unfold uS uG at h; unfold uB; omega)), h1.fr (F.sm (fun a i h => by unfold uS uG at h; unfold uB; omega)), hR.fr (F.sm (fun a i h => by unfold uR at h; unfold uB; omega)), hN.fr (F.sm (fun a i h => by unfold uN at h; unfold uB; omega))⟩
theorem Iv.gB (h : Iv s) : ∃ B nb, iB s B nb := by
  obtain ⟨pc, po, gp, gf, gs, B, nb, W, T, nt, ps, S, x, l0, l1, an, na, hA, hK, hB, _⟩ := h
  exact ⟨B, nb, hB⟩
theorem Iv.gW (h : Iv s) : ∃ W, iW s W := by
  obtain ⟨pc, po, gp, gf, gs, B, nb, W, T, nt, ps, S, x, l0, l1, an, na, hA, hK, hB, hW, _⟩ := h
  exact ⟨W, hW⟩
theorem Iv.z0 (h : Iv s) : Iv (wI s 139 0 0) := h.fr (frM.rfl'.wI (Or.inl ⟨rfl, rfl⟩))
theorem op_give {v : Int64} {v2 : Int32} {Q : Int32 → yS → Prop} (h : Iv s) (H : ∀ r s1, (∀ Q2 : Int32 → yS → Prop, (∀ s2, Iv s2 → Q2 r s2) → W_X12_giveBytes s1 v v2 Q2) → Q r s1) : W_X11_giveBytes s v v2 Q := by
  obtain ⟨B, nb, hB⟩ := h.gB
  refine c_give hB.1 (fun h0 => H 0 s (fun Q2 H2 => k_give hB.2 (fun _ => H2 _ h.z0) (fun n a1 a2 a3 a4 => ?_))) (fun n a1 a2 a3 a4 s' F' b' => H 1 s' (fun Q2 H2 => k_give (hB.2.fr (F'.1 _ _ (by omega)) (fun i => F'.1 _ _ (by omega))) (fun h0 => ?_) (fun n' b1 b2 b3 b4 s2 F2 m2 => ?_)))
  · exfalso
    subst a3
    rw [nI_1U, nI_ltU (by omega) (by omega), nI_ltU (by omega) (by omega), nI_addU, nI_leU (by omega) (by omega)] at h0
    omega
  · exfalso
    subst a3
    rw [nI_1U, nI_ltU (by omega) (by omega), nI_ltU (by omega) (by omega), nI_addU, nI_leU (by omega) (by omega)] at h0
    omega
  · obtain rfl : n = n' := (nI_inj (by omega) (by omega)).mp (a3.symm.trans b3)
    have F : frM (fun a i => uB a i ∨ (a = 139 ∧ i = 0)) s s2 := (F'.mono (fun a i h => by unfold uB; omega)).trans (F2.mono (fun a i h => by unfold uB; omega))
    refine H2 s2 (h.bytes F (B' := gvB B nb v n) (nb' := nb + n) ⟨⟨b'.1.fr (fun k => F2.1 _ _ (by omega)), (F2.1 _ _ (by omega)).trans b'.2⟩, m2⟩)
theorem op_cut {v1 : Int32} {Q : Int32 → yS → Prop} (h : Iv s) (H : ∀ r s1, (∀ Q2 : Int32 → yS → Prop, (∀ s2, Iv s2 → Q2 r s2) → W_X12_cutBytes s1 v1 Q2) → Q r s1) : W_X11_cutBytes s v1 Q := by
  obtain ⟨B, nb, hB⟩ := h.gB
  obtain ⟨⟨⟨b1, b2, b3⟩, b4⟩, c1, c2, c3, c4⟩ := id hB
  have no : (v1 < 0 ∨ ¬ v1 ≤ nI nb) → Q 0 s := fun hn => H 0 s (fun Q2 H2 => by
    unfold W_X12_cutBytes
    intro s1 e1
    have i1 : Iv s1 := by subst e1; exact h.z0
    have m1 : sI s1 139 2 = nI nb := by subst e1; rw [sI_w, if_neg (by omega)]; exact c2
    rw [m1]
    exact ⟨fun _ => H2 _ i1, fun h1 => ⟨fun h2 => by rcases hn with hn | hn; exact absurd hn h1; exact absurd h2 hn, fun _ => H2 _ i1⟩⟩)
  unfold W_X11_cutBytes
  rw [b4]
  refine ⟨fun hn => no (Or.inl hn), fun h0 => ⟨fun hle => ?_, fun hn => no (Or.inr hn)⟩⟩
  intro s1 e1
  obtain ⟨n, en, hn31⟩ : ∃ n, v1 = nI n ∧ n < 2147483648 := by
    rw [i_ltI] at h0; exact nI_ofU (Int.not_lt.mp h0)
  subst en
  have hle' : n ≤ nb := (nI_leU (by omega) (by omega)).mp hle
  refine H 1 s1 (fun Q2 H2 => ?_)
  have n1 : ∀ a i, ¬ (a = 0 ∧ i = 2) → sI s1 a i = sI s a i := fun a i h => by subst e1; rw [sI_w, if_neg h]
  unfold W_X12_cutBytes
  intro s2 e2
  have n2 : ∀ a i, ¬ (a = 139 ∧ i = 0) → sI s2 a i = sI s1 a i := fun a i h => by subst e2; rw [sI_w, if_neg h]
  rw [n2 139 2 (by omega), n1 139 2 (by omega), c2]
  refine ⟨fun hn => absurd hn h0, fun _ => ⟨fun _ => ?_, fun hn => absurd hle hn⟩⟩
  intro s3 e3
  have n3 : ∀ a i, ¬ (a = 139 ∧ i = 2) → sI s3 a i = sI s2 a i := fun a i h => by subst e3; rw [sI_w, if_neg h]
  have F : frM (fun a i => uB a i ∨ (a = 139 ∧ i = 0)) s s3 := by subst e3; subst e2; subst e1; exact ((frM.rfl'.wI (by unfold uB; omega)).wI (by unfold uB; omega)).wI (by unfold uB; omega)
  refine H2 s3 (h.bytes F (B' := B) (nb' := n) ⟨⟨⟨by omega, fun k hk => ?_, b3⟩, ?_⟩, by omega, ?_, fun k hk => ?_, c4⟩)
  · rw [n3 _ _ (by omega), n2 _ _ (by omega), n1 _ _ (by omega)]; exact b2 k (by omega)
  · rw [n3 _ _ (by omega), n2 _ _ (by omega)]; subst e1; rw [sI_w, if_pos ⟨rfl, rfl⟩]
  · subst e3; rw [sI_w, if_pos ⟨rfl, rfl⟩]
  · rw [n3 _ _ (by omega), n2 _ _ (by omega), n1 _ _ (by omega)]; exact c3 k (by omega)
theorem op_poke {v1 v2 : Int32} {Q : Int32 → yS → Prop} (h : Iv s) (H : ∀ r s1, (∀ Q2 : Int32 → yS → Prop, (∀ s2, Iv s2 → Q2 r s2) → W_X12_pokeByte s1 v1 v2 Q2) → Q r s1) : W_X11_pokeByte s v1 v2 Q := by
  obtain ⟨B, nb, hB⟩ := h.gB
  obtain ⟨⟨⟨b1, b2, b3⟩, b4⟩, c1, c2, c3, c4⟩ := id hB
  have no : (v1 < 0 ∨ ¬ v1 < nI nb) → Q 0 s := fun hn => H 0 s (fun Q2 H2 => by
    unfold W_X12_pokeByte
    intro s1 e1
    have i1 : Iv s1 := by subst e1; exact h.z0
    have m1 : sI s1 139 2 = nI nb := by subst e1; rw [sI_w, if_neg (by omega)]; exact c2
    rw [m1]
    exact ⟨fun _ => H2 _ i1, fun h1 => ⟨fun h2 => by rcases hn with hn | hn; exact absurd hn h1; exact absurd h2 hn, fun _ => H2 _ i1⟩⟩)
  unfold W_X11_pokeByte
  rw [b4]
  refine ⟨fun hn => no (Or.inl hn), fun h0 => ⟨fun hle => ?_, fun hn => no (Or.inr hn)⟩⟩
  obtain ⟨n, en, hn31⟩ : ∃ n, v1 = nI n ∧ n < 2147483648 := by
    rw [i_ltI] at h0; exact nI_ofU (Int.not_lt.mp h0)
  subst en
  have hlt : n < nb := (nI_ltU (by omega) (by omega)).mp hle
  have hin : vp_in (nI n) 8192 := nI_inU (by omega) (by omega)
  rw [nI_ix (n := n) (by omega), nar8]
  refine ⟨hin, ?_⟩
  intro s1 e1
  refine H 1 s1 (fun Q2 H2 => ?_)
  have n1 : ∀ a i, ¬ (a = 1 ∧ i = n) → sI s1 a i = sI s a i := fun a i h => by subst e1; rw [sI_w, if_neg h]
  unfold W_X12_pokeByte
  intro s2 e2
  have n2 : ∀ a i, ¬ (a = 139 ∧ i = 0) → sI s2 a i = sI s1 a i := fun a i h => by subst e2; rw [sI_w, if_neg h]
  rw [n2 139 2 (by omega), n1 139 2 (by omega), c2, nI_ix (n := n) (by omega), and255]
  refine ⟨fun hn => absurd hn h0, fun _ => ⟨fun _ => ⟨hin, ?_⟩, fun hn => absurd hle hn⟩⟩
  intro s3 e3
  have n3 : ∀ a i, ¬ (a = 140 ∧ i = n) → sI s3 a i = sI s2 a i := fun a i h => by subst e3; rw [sI_w, if_neg h]
  have F : frM (fun a i => uB a i ∨ (a = 139 ∧ i = 0)) s s3 := by subst e3; subst e2; subst e1; exact ((frM.rfl'.wI (by unfold uB; omega)).wI (by unfold uB; omega)).wI (by unfold uB; omega)
  have hlt' : ∀ k, (if k = n then bv v2 else B k) < 256 := fun k => by split; exact bv_lt _; exact b3 k
  refine H2 s3 (h.bytes F (B' := fun k => if k = n then bv v2 else B k) (nb' := nb) ⟨⟨⟨b1, fun k hk => ?_, hlt'⟩, ?_⟩, c1, ?_, fun k hk => ?_, hlt'⟩)
  · rw [n3 _ _ (by omega), n2 _ _ (by omega)]
    dsimp only
    by_cases c : k = n
    · subst c; rw [if_pos rfl]; subst e1; rw [sI_w, if_pos ⟨rfl, rfl⟩]
    · rw [if_neg c, n1 _ _ (by omega)]; exact b2 k hk
  · rw [n3 _ _ (by omega), n2 _ _ (by omega), n1 _ _ (by omega)]; exact b4
  · rw [n3 _ _ (by omega), n2 _ _ (by omega), n1 _ _ (by omega)]; exact c2
  · dsimp only
    by_cases c : k = n
    · subst c; rw [if_pos rfl]; subst e3; rw [sI_w, if_pos ⟨rfl, rfl⟩]
    · rw [if_neg c, n3 _ _ (by omega), n2 _ _ (by omega), n1 _ _ (by omega)]; exact c3 k hk
end

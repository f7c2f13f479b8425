def ncs (l : List Fn) (k : Nat) : Nat := ((l.take k).map (fun x => (fC x).length)).sum
theorem ncs_s {l : List Fn} {k : Nat} (h : k < l.length) : ncs l (k + 1) = ncs l k + (fC l[k]).length := by
  unfold ncs
  rw [List.take_succ_eq_append_getElem h, List.map_append, List.sum_append]
  simp
section
variable {s : yS} {g q : Nat} {l : List Fn}
theorem c_codeCount {Q : Int32 → Prop} (hok : pgOK l) (hp : pgC s g l) (H : Q (nI (ncs l l.length))) : W_X5_codeCount s g Q := by
  have h12 := hok.2.1
  unfold W_X5_codeCount
  intro P4 hP4
  rw [hp.1] at hP4
  suffices hL : ∀ (w k : Nat), k + w = l.length → P4 (nI (ncs l k)) (nI k) from hL l.length 0 (Nat.zero_add _)
  intro w
  induction w with
  | zero =>
    intro k hk
    obtain rfl : k = l.length := by omega
    apply hP4
    exact ⟨fun _ => H, fun hz => absurd ((nI_leU (by omega) (by omega)).mpr (Nat.le_refl _)) hz⟩
  | succ w ih =>
    intro k hk
    apply hP4
    refine ⟨fun hz => absurd ((nI_leU (by omega) (by omega)).mp hz) (by omega), fun _ => ?_⟩
    rw [nI_ix (n := k) (by omega), (hp.2 k (by omega)).2.2.2.2.1]
    refine ⟨nI_inU (by omega) (by omega), ?_⟩
    intro x4 e4 x5 e5
    subst e4; subst e5
    rw [nI_addU, nI_s, ← ncs_s (by omega)]
    exact ih (k + 1) (by omega)
theorem k_codes {Q : Int32 → Prop} (hq : q ≤ 1) (hb : (sI s 177 q = 0 ∧ ∃ n, n ≤ 12 ∧ sI s 178 q = nI n) ∨ (sI s 177 q = 1 ∧ pgM s q l ∧ pgOK l)) (H0 : sI s 177 q = 0 → Q (-1)) (H1 : sI s 177 q = 1 → Q (nI (ncs l l.length))) : W_X12_codes s (nI q) Q := by
  have inq : vp_in (nI q) 3 := nI_inU (by omega) (by omega)
  unfold W_X12_codes
  intro P4 hP4
  rw [nI_ix (n := q) (by omega)] at hP4
  rcases hb with ⟨b1, n, hn, en⟩ | ⟨b1, b2, b3⟩
  · rw [en] at hP4
    suffices hL : ∀ (w k : Nat) (x : Int32), k + w = n → P4 x (nI k) from hL n 0 0 (Nat.zero_add _)
    intro w
    induction w with
    | zero =>
      intro k x hk
      obtain rfl : k = n := by omega
      apply hP4
      exact ⟨inq, fun _ => ⟨inq, fun _ => H0 b1, fun hz => absurd b1 hz⟩, fun hz => absurd ((nI_leU (by omega) (by omega)).mpr (Nat.le_refl _)) hz⟩
    | succ w ih =>
      intro k x hk
      apply hP4
      refine ⟨inq, fun hz => absurd ((nI_leU (by omega) (by omega)).mp hz) (by omega), fun _ => ?_⟩
      rw [nI_mul, nI_addU]
      refine ⟨nI_inU (by omega) (by omega), ?_⟩
      intro x6 e6 x7 e7
      subst e7
      rw [nI_s]
      exact ih (k + 1) x6 (by omega)
  · have h12 := b3.2.1
    rw [b2.1] at hP4
    suffices hL : ∀ (w k : Nat), k + w = l.length → P4 (nI (ncs l k)) (nI k) from hL l.length 0 (Nat.zero_add _)
    intro w
    induction w with
    | zero =>
      intro k hk
      obtain rfl : k = l.length := by omega
      apply hP4
      exact ⟨inq, fun _ => ⟨inq, fun hz => by rw [b1] at hz; exact absurd hz (by decide), fun _ => H1 b1⟩, fun hz => absurd ((nI_leU (by omega) (by omega)).mpr (Nat.le_refl _)) hz⟩
    | succ w ih =>
      intro k hk
      apply hP4
      refine ⟨inq, fun hz => absurd ((nI_leU (by omega) (by omega)).mp hz) (by omega), fun _ => ?_⟩
      rw [nI_mul, nI_addU, nI_ix (n := 12 * q + k) (by omega), (b2.2 k (by omega)).2.2.2.2.1]
      refine ⟨nI_inU (by omega) (by omega), ?_⟩
      intro x6 e6 x7 e7
      subst e6; subst e7
      rw [nI_addU, nI_s, ← ncs_s (by omega)]
      exact ih (k + 1) (by omega)
theorem op_lookAt {v1 : Int32} {Q : Int32 → Prop} (h : Iv s) (H : ∀ r, (∀ Q2 : Int32 → yS → Prop, (∀ s2, Iv s2 → Q2 r s2) → W_X12_lookAt s v1 Q2) → Q r) : W_X11_lookAt s v1 Q := by
  obtain ⟨pc, po, gp, gf, gs, B, nb, W, T, nt, ps, S, x, l0, l1, an, na, hA, hK, hB, hW, hF, hP, hH, h0, h1, hR, hN⟩ := id h
  obtain ⟨a1, a2, a3, a4, a5, a6, a7, a8, a9, a10, a11, a12⟩ := id hA
  have hpp : pc = 3 ∨ pc = 20 := by rcases a1 with ⟨e, _⟩ | ⟨e, _⟩ <;> omega
  have hkp : kd pc = some (7, 0) := by rcases hpp with e | e <;> (rw [e]; rfl)
  obtain ⟨_, _, hm, p4, p5, p6, p7, p8, p9⟩ := id hP
  have c47 : sI s 139 47 = nI (offs ps 16) := p4.2.2.2.1.2.2.2.2.1
  have c56 : sI s 139 56 = nI (nn ps S) := p4.2.2.2.1.2.2.2.1
  have sl : ∀ {g q hi : Nat} {l : List Fn} {t : yS}, t = wI s 139 0 0 → iS s g q hi l ps S → (sI t 177 q = 0 ∧ ∃ n, n ≤ 12 ∧ sI t 178 q = nI n) ∨ (sI t 177 q = 1 ∧ pgM t q l ∧ pgOK l) := fun {g q hi l t} e hS => by
    rcases hS with ⟨b1, b2, n, b3, b4⟩ | ⟨b1, b2, b3, b4, b5, _⟩
    · exact Or.inl ⟨(zf e _ _ (by omega)).trans b2, n, b3, (zf e _ _ (by omega)).trans b4⟩
    · exact Or.inr ⟨(zf e _ _ (by omega)).trans b2, b4.fr (fun a i ha => zf e _ _ (by omega)), b5⟩
  have key : ∀ r, (v1.toInt < 0 ∨ 13 < v1.toInt → r = -1) → (v1.toInt = 0 → r = nI (pC ps).length) → (v1.toInt = 1 → r = nI (pN ps).length) → (v1.toInt = 2 → r = nI (offs ps 16)) → (v1.toInt = 3 → r = nI S.length) → (v1.toInt = 4 → r = nI (nn ps S))
      → (v1.toInt = 5 → (sI s 0 11 = 0 → r = -1) ∧ (sI s 0 11 = 1 → r = nI l0.length)) → (v1.toInt = 6 → (sI s 0 11 = 0 → r = -1) ∧ (sI s 0 11 = 1 → r = nI (ncs l0 l0.length))) → (v1.toInt = 7 → (sI s 0 12 = 0 → r = -1) ∧ (sI s 0 12 = 1 → r = nI (ncs l1 l1.length)))
      → (v1.toInt = 8 → r = nI na) → (v1.toInt = 9 → r = nI nb) → (v1.toInt = 10 → r = nI W.length) → (v1.toInt = 11 → r = sI s 0 4) → (v1.toInt = 12 → r = sI s 0 5) → (v1.toInt = 13 → r = nI (stQ ps S x)) → Q r := by
    intro r k0 k1 k2 k3 k4 k5 k6 k7 k8 k9 k10 k11 k12 k13 k14
    refine H r (fun Q2 H2 => ?_)
    unfold W_X12_lookAt
    intro s1 e1
    have i1 : Iv s1 := by subst e1; exact h.z0
    have go : ∀ y, r = y → Q2 y s1 := fun y hy => by rw [← hy]; exact H2 _ i1
    rw [zf e1 139 19 (by omega), p4.1.1.1, zf e1 139 27 (by omega), p4.1.2.2.1.1, zf e1 139 47 (by omega), c47, zf e1 139 51 (by omega), p4.2.2.1.1, zf e1 139 56 (by omega), c56, zf e1 139 88 (by omega), hN.2.1, zf e1 139 2 (by omega), hB.2.2.1, zf e1 139 5 (by omega), hW.2.2.1.1, zf e1 139 6 (by omega), hF.1, zf e1 139 7 (by omega), hF.2, zf e1 139 99 (by omega), hH.2.1, show ix 0 = 0 from rfl]
    refine ⟨fun c => go _ (k0 c), fun c => go _ (k1 c), fun c => go _ (k2 c), fun c => go _ (k3 c), fun c => go _ (k4 c), fun c => go _ (k5 c), fun c => ⟨nI_inU (a := 0) (by omega) (by omega), ?_⟩, fun c => ?_, fun c => ?_, fun c => go _ (k9 c), fun c => go _ (k10 c), fun c => go _ (k11 c), fun c => go _ (k12 c), fun c => go _ (k13 c), fun c => ?_⟩
    · rw [zf e1 177 _ (by omega), zf e1 178 _ (by omega)]
      rcases h0 with ⟨b1, b2, _⟩ | ⟨b1, b2, b3, b4, _⟩
      · exact ⟨fun _ => go _ ((k6 c).1 b1), fun hz => absurd b2 hz⟩
      · refine ⟨fun hz => by rw [b2] at hz; exact absurd hz (by decide), fun _ => ⟨nI_inU (a := 0) (by omega) (by omega), ?_⟩⟩
        rw [b4.1]; exact go _ ((k6 c).2 b1)
    · refine k_codes (q := 0) (l := l0) (by omega) (sl e1 h0) (fun hz => go _ ((k7 c).1 ?_)) (fun hz => go _ ((k7 c).2 ?_))
      · rw [zf e1 177 _ (by omega)] at hz
        rcases h0 with b | b
        · exact b.1
        · rw [b.2.1] at hz; exact absurd hz (by decide)
      · rw [zf e1 177 _ (by omega)] at hz
        rcases h0 with b | b
        · rw [b.2.1] at hz; exact absurd hz (by decide)
        · exact b.1
    · refine k_codes (q := 1) (l := l1) (by omega) (sl e1 h1) (fun hz => go _ ((k8 c).1 ?_)) (fun hz => go _ ((k8 c).2 ?_))
      · rw [zf e1 177 _ (by omega)] at hz
        rcases h1 with b | b
        · exact b.1
        · rw [b.2.1] at hz; exact absurd hz (by decide)
      · rw [zf e1 177 _ (by omega)] at hz
        rcases h1 with b | b
        · rw [b.2.1] at hz; exact absurd hz (by decide)
        · exact b.1
    · exact k_idx (P := fun y => Q2 y s1) hm (p4.z e1) hH.2.2.1 (go _ (k14 c))
  have t01 : ∀ {x : Int32}, x = 0 → x = 1 → False := fun h1 h2 => by rw [h1] at h2; exact absurd h2 (by decide)
  have K : ∀ (n : Nat) (r : Int32), v1.toInt = n → (n = 0 → r = nI (pC ps).length) → (n = 1 → r = nI (pN ps).length) → (n = 2 → r = nI (offs ps 16)) → (n = 3 → r = nI S.length) → (n = 4 → r = nI (nn ps S)) → (n = 5 → (sI s 0 11 = 0 → r = -1) ∧ (sI s 0 11 = 1 → r = nI l0.length)) → (n = 6 → (sI s 0 11 = 0 → r = -1) ∧ (sI s 0 11 = 1 → r = nI (ncs l0 l0.length))) → (n = 7 → (sI s 0 12 = 0 → r = -1) ∧ (sI s 0 12 = 1 → r = nI (ncs l1 l1.length))) → (n = 8 → r = nI na) → (n = 9 → r = nI nb) → (n = 10 → r = nI W.length) → (n = 11 → r = sI s 0 4) → (n = 12 → r = sI s 0 5) → (n = 13 → r = nI (stQ ps S x)) → n ≤ 13 → Q r := fun n r e k1 k2 k3 k4 k5 k6 k7 k8 k9 k10 k11 k12 k13 k14 hn => key r (fun c => by omega) (fun c => k1 (by omega)) (fun c => k2 (by omega)) (fun c => k3 (by omega)) (fun c => k4 (by omega)) (fun c => k5 (by omega)) (fun c => k6 (by omega)) (fun c => k7 (by omega)) (fun c => k8 (by omega)) (fun c => k9 (by omega)) (fun c => k10 (by omega)) (fun c => k11 (by omega)) (fun c => k12 (by omega)) (fun c => k13 (by omega)) (fun c => k14 (by omega))
  unfold W_X11_lookAt
  refine ⟨fun c => key _ (fun _ => rfl) (fun c' => by omega) (fun c' => by omega) (fun c' => by omega) (fun c' => by omega) (fun c' => by omega) (fun c' => by omega) (fun c' => by omega) (fun c' => by omega) (fun c' => by omega) (fun c' => by omega) (fun c' => by omega) (fun c' => by omega) (fun c' => by omega) (fun c' => by omega), fun c => ⟨pc, a2, hkp, ?_⟩, fun c => ⟨pc, a2, hkp, ?_⟩, fun c => ⟨pc, a2, hkp, c_cnt p5.1 ?_⟩, fun c => ⟨pc, a2, hkp, ?_⟩, fun c => ⟨pc, a2, hkp, ?_⟩, fun c => ?_, fun c => ?_, fun c => ?_, fun c => ?_, fun c => ?_, fun c => ?_, fun c => ?_, fun c => ?_, fun c => ?_⟩
  · rw [p8]
    refine K 0 _ c ?_ ?_ ?_ ?_ ?_ ?_ ?_ ?_ ?_ ?_ ?_ ?_ ?_ ?_ (by omega) <;> intro c' <;> first | rfl | (exfalso; omega)
  · rw [p9]
    refine K 1 _ c ?_ ?_ ?_ ?_ ?_ ?_ ?_ ?_ ?_ ?_ ?_ ?_ ?_ ?_ (by omega) <;> intro c' <;> first | (exfalso; omega) | rfl
  · refine K 2 _ c ?_ ?_ ?_ ?_ ?_ ?_ ?_ ?_ ?_ ?_ ?_ ?_ ?_ ?_ (by omega) <;> intro c' <;> first | (exfalso; omega) | rfl
  · rw [p5.2.1]
    refine K 3 _ c ?_ ?_ ?_ ?_ ?_ ?_ ?_ ?_ ?_ ?_ ?_ ?_ ?_ ?_ (by omega) <;> intro c' <;> first | (exfalso; omega) | rfl
  · rw [p5.2.2.1.2.2.2.1]
    refine K 4 _ c ?_ ?_ ?_ ?_ ?_ ?_ ?_ ?_ ?_ ?_ ?_ ?_ ?_ ?_ (by omega) <;> intro c' <;> first | (exfalso; omega) | rfl
  · rcases h0 with ⟨b1, b2, _⟩ | ⟨b1, b2, b3, b4, b5, _⟩
    · refine ⟨fun _ => ?_, fun hz => absurd b1 hz⟩
      refine K 5 _ c ?_ ?_ ?_ ?_ ?_ ?_ ?_ ?_ ?_ ?_ ?_ ?_ ?_ ?_ (by omega) <;> intro c' <;> first | (exfalso; omega) | exact ⟨fun _ => rfl, fun hz => (t01 b1 hz).elim⟩
    · refine ⟨fun hz => (t01 hz b1).elim, fun _ => ⟨gp, a4, a7.kd, ?_⟩⟩
      rw [b3.1]
      refine K 5 _ c ?_ ?_ ?_ ?_ ?_ ?_ ?_ ?_ ?_ ?_ ?_ ?_ ?_ ?_ (by omega) <;> intro c' <;> first | (exfalso; omega) | exact ⟨fun hz => (t01 hz b1).elim, fun _ => rfl⟩
  · rcases h0 with ⟨b1, b2, _⟩ | ⟨b1, b2, b3, b4, b5, _⟩
    · refine ⟨fun _ => ?_, fun hz => absurd b1 hz⟩
      refine K 6 _ c ?_ ?_ ?_ ?_ ?_ ?_ ?_ ?_ ?_ ?_ ?_ ?_ ?_ ?_ (by omega) <;> intro c' <;> first | (exfalso; omega) | exact ⟨fun _ => rfl, fun hz => (t01 b1 hz).elim⟩
    · refine ⟨fun hz => (t01 hz b1).elim, fun _ => ⟨gp, a4, a7.kd, c_codeCount b5 b3 ?_⟩⟩
      refine K 6 _ c ?_ ?_ ?_ ?_ ?_ ?_ ?_ ?_ ?_ ?_ ?_ ?_ ?_ ?_ (by omega) <;> intro c' <;> first | (exfalso; omega) | exact ⟨fun hz => (t01 hz b1).elim, fun _ => rfl⟩
  · rcases h1 with ⟨b1, b2, _⟩ | ⟨b1, b2, b3, b4, b5, _⟩
    · refine ⟨fun _ => ?_, fun hz => absurd b1 hz⟩
      refine K 7 _ c ?_ ?_ ?_ ?_ ?_ ?_ ?_ ?_ ?_ ?_ ?_ ?_ ?_ ?_ (by omega) <;> intro c' <;> first | (exfalso; omega) | exact ⟨fun _ => rfl, fun hz => (t01 b1 hz).elim⟩
    · refine ⟨fun hz => (t01 hz b1).elim, fun _ => ⟨gf, a5, a8.kd, c_codeCount b5 b3 ?_⟩⟩
      refine K 7 _ c ?_ ?_ ?_ ?_ ?_ ?_ ?_ ?_ ?_ ?_ ?_ ?_ ?_ ?_ (by omega) <;> intro c' <;> first | (exfalso; omega) | exact ⟨fun hz => (t01 hz b1).elim, fun _ => rfl⟩
  · rw [hN.1.1]
    refine K 8 _ c ?_ ?_ ?_ ?_ ?_ ?_ ?_ ?_ ?_ ?_ ?_ ?_ ?_ ?_ (by omega) <;> intro c' <;> first | (exfalso; omega) | rfl
  · rw [hB.1.2]
    refine K 9 _ c ?_ ?_ ?_ ?_ ?_ ?_ ?_ ?_ ?_ ?_ ?_ ?_ ?_ ?_ (by omega) <;> intro c' <;> first | (exfalso; omega) | rfl
  · rw [hW.2.1]
    refine K 10 _ c ?_ ?_ ?_ ?_ ?_ ?_ ?_ ?_ ?_ ?_ ?_ ?_ ?_ ?_ (by omega) <;> intro c' <;> first | (exfalso; omega) | rfl
  · refine K 11 _ c ?_ ?_ ?_ ?_ ?_ ?_ ?_ ?_ ?_ ?_ ?_ ?_ ?_ ?_ (by omega) <;> intro c' <;> first | (exfalso; omega) | rfl
  · refine K 12 _ c ?_ ?_ ?_ ?_ ?_ ?_ ?_ ?_ ?_ ?_ ?_ ?_ ?_ ?_ (by omega) <;> intro c' <;> first | (exfalso; omega) | rfl
  · rw [hH.1]
    refine K 13 _ c ?_ ?_ ?_ ?_ ?_ ?_ ?_ ?_ ?_ ?_ ?_ ?_ ?_ ?_ (by omega) <;> intro c' <;> first | (exfalso; omega) | rfl
end

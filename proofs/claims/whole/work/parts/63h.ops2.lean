section
variable {s : yS} {g q hi pc : Nat} {l : List Fn} {ps : PS} {S : List Int32}
/-- there is such an instruction -/
def thI (l : List Fn) (v2 v3 : Int32) : Prop := ∃ f i, ∃ hf : f < l.length, i < (fC l[f]).length ∧ v2 = nI f ∧ v3 = nI i
theorem c_hasF {v1 v2 : Int32} {Q : Int32 → Prop} (hhi : hi = if v1 = 0 then 11 else 12) (hg : gOK g) (rg : sR s 0 (if v1 = 0 then 8 else 9) = g + 1) (hS : iS s g q hi l ps S)
    (Hn : (sI s 0 hi = 0 ∨ ¬ ∃ f, f < l.length ∧ v2 = nI f) → Q 0) (Hy : sI s 0 hi = 1 → ∀ f, f < l.length → v2 = nI f → Q 1) : W_X11_hasFunction s v1 v2 Q := by
  unfold W_X11_hasFunction
  refine c_has hhi hS.bb ?_
  rcases hS with ⟨b1, b2, b3⟩ | ⟨b1, b2, b3, b4, b5, b6, b7, b8, b9, b10⟩
  · rw [b1]
    exact ⟨fun _ => Hn (Or.inl b1), fun hz => absurd rfl hz⟩
  · have h12 := b5.2.1
    rw [b1]
    refine ⟨fun hz => absurd hz (by decide), fun _ => ⟨fun hn => Hn (Or.inr ?_), fun hnn => c_pick hg rg ⟨hg.kd, ?_⟩⟩⟩
    · rintro ⟨f, hf, e⟩
      subst e
      rw [nI_0U, nI_ltU (by omega) (by omega)] at hn; omega
    · obtain ⟨n, en, hn31⟩ : ∃ n, v2 = nI n ∧ n < 2147483648 := by rw [i_ltI] at hnn; exact nI_ofU (Int.not_lt.mp hnn)
      subst en
      rw [b3.1, nI_leU (by omega) (by omega)]
      refine ⟨fun hle => Hn (Or.inr ?_), fun hlt => Hy b1 n (by omega) rfl⟩
      rintro ⟨f, hf, e⟩
      have := (nI_inj (by omega) (by omega)).mp e
      omega
theorem c_hasI {v1 v2 v3 : Int32} {Q : Int32 → Prop} (hhi : hi = if v1 = 0 then 11 else 12) (hg : gOK g) (rg : sR s 0 (if v1 = 0 then 8 else 9) = g + 1) (hS : iS s g q hi l ps S)
    (Hn : (sI s 0 hi = 0 ∨ ¬ thI l v2 v3) → Q 0) (Hy : sI s 0 hi = 1 → thI l v2 v3 → Q 1) : W_X11_hasInstruction s v1 v2 v3 Q := by
  unfold W_X11_hasInstruction
  refine c_hasF hhi hg rg hS (fun hn => ⟨fun _ => Hn ?_, fun hz => absurd rfl hz⟩) (fun b1 f hf ef => ⟨fun hz => absurd hz (by decide), fun _ => ⟨fun hn => Hn (Or.inr ?_), fun hnn => c_pick hg rg ⟨hg.kd, ?_⟩⟩⟩)
  · rcases hn with hn | hn
    · exact Or.inl hn
    · exact Or.inr (fun ⟨f, i, hf, _, e, _⟩ => hn ⟨f, hf, e⟩)
  · rintro ⟨f', i, hf', hi', _, e⟩
    rcases hS with b | b
    · rw [b.1] at b1; exact absurd b1 (by decide)
    · have := (b.2.2.2.2.1.2.2.1 f' hf').2.2.2.2.2.2.2.2.1
      rw [e, nI_0U, nI_ltU (by omega) (by omega)] at hn; omega
  · rcases hS with b | ⟨_, b2, b3, b4, b5, b6, b7, b8, b9, b10⟩
    · rw [b.1] at b1; exact absurd b1 (by decide)
    · have h12 := b5.2.1
      have h400 := (b5.2.2.1 f hf).2.2.2.2.2.2.2.2.1
      obtain ⟨n, en, hn31⟩ : ∃ n, v3 = nI n ∧ n < 2147483648 := by rw [i_ltI] at hnn; exact nI_ofU (Int.not_lt.mp hnn)
      subst en; subst ef
      rw [nI_ix (n := f) (by omega), (b3.2 f hf).2.2.2.2.1, nI_leU (by omega) (by omega)]
      refine ⟨nI_inU (by omega) (by omega), fun hle => Hn (Or.inr ?_), fun hlt => Hy b1 ⟨f, n, hf, by omega, rfl, rfl⟩⟩
      rintro ⟨f', i, hf', hi', e1, e2⟩
      obtain rfl := (nI_inj (by omega) (by omega)).mp e1
      have := (nI_inj (by omega) (by omega)).mp e2
      omega
theorem k_isThere {v2 v3 : Int32} {Q : Int32 → Prop} (hq : q ≤ 1) (hS : (sI s 177 q = 0) ∨ (sI s 177 q = 1 ∧ pgM s q l ∧ pgOK l))
    (Hn : (sI s 177 q = 0 ∨ ¬ thI l v2 v3) → Q 0) (Hy : sI s 177 q = 1 → thI l v2 v3 → Q 1) : W_X12_isThere s (nI q) v2 v3 Q := by
  unfold W_X12_isThere
  rw [nI_ix (n := q) (by omega)]
  refine ⟨nI_inU (by omega) (by omega), ?_⟩
  rcases hS with b2 | ⟨b2, b4, b5⟩
  · exact ⟨fun _ => Hn (Or.inl b2), fun hz => absurd b2 hz⟩
  · have h12 := b5.2.1
    have no : (∀ f i, (hf : f < l.length) → i < (fC l[f]).length → v2 = nI f → v3 = nI i → False) → Q 0 := fun hh => Hn (Or.inr (fun ⟨f, i, hf, hi, e1, e2⟩ => hh f i hf hi e1 e2))
    refine ⟨fun hz => by rw [b2] at hz; exact absurd hz (by decide), fun _ => ⟨fun hn => no (fun f i hf hi e1 e2 => ?_), fun hnn => ⟨nI_inU (by omega) (by omega), ?_⟩⟩⟩
    · subst e1
      rw [nI_0U, nI_ltU (by omega) (by omega)] at hn; omega
    obtain ⟨f, ef, hf31⟩ : ∃ n, v2 = nI n ∧ n < 2147483648 := by rw [i_ltI] at hnn; exact nI_ofU (Int.not_lt.mp hnn)
    subst ef
    rw [b4.1, nI_leU (by omega) (by omega)]
    refine ⟨fun hle => no (fun f' i hf hi e1 e2 => ?_), fun hlt => ⟨fun hn => no (fun f' i hf hi e1 e2 => ?_), fun hnn3 => ?_⟩⟩
    · have := (nI_inj (by omega) (by omega)).mp e1
      omega
    · have := (b5.2.2.1 f' hf).2.2.2.2.2.2.2.2.1
      subst e2
      rw [nI_0U, nI_ltU (by omega) (by omega)] at hn; omega
    have hf : f < l.length := by omega
    have h400 := (b5.2.2.1 f hf).2.2.2.2.2.2.2.2.1
    obtain ⟨i, ei, hi31⟩ : ∃ n, v3 = nI n ∧ n < 2147483648 := by rw [i_ltI] at hnn3; exact nI_ofU (Int.not_lt.mp hnn3)
    subst ei
    rw [nI_mul, nI_addU, nI_ix (n := 12 * q + f) (by omega), (b4.2 f hf).2.2.2.2.1, nI_leU (by omega) (by omega)]
    refine ⟨nI_inU (by omega) (by omega), fun hle => no (fun f' i' hf' hi' e1 e2 => ?_), fun hlt => Hy b2 ⟨f, i, hf, by omega, rfl, rfl⟩⟩
    obtain rfl := (nI_inj (by omega) (by omega)).mp e1
    have := (nI_inj (by omega) (by omega)).mp e2
    omega
theorem op_funcOf {v1 v2 v3 : Int32} {Q : Int32 → Prop} (h : Iv s) (H : ∀ r, (∀ Q2 : Int32 → yS → Prop, (∀ s2, Iv s2 → Q2 r s2) → W_X12_functionOf s v1 v2 v3 Q2) → Q r) : W_X11_functionOf s v1 v2 v3 Q := by
  obtain ⟨pc, g, q, hi, l, ps, S, an, na, hq, hhi, hpp, r6, hg, rg, hS, hm, p4, p5, p6, p7, hN, _, _, _⟩ := h.slot v1
  have hq1 : q ≤ 1 := by rw [hq]; split <;> omega
  have inq : vp_in (nI q) 3 := nI_inU (by omega) (by omega)
  unfold W_X11_functionOf
  refine c_hasF hhi hg rg hS (fun hn => ⟨fun hz => absurd rfl hz, fun _ => H _ (fun Q2 H2 => ?_)⟩) (fun b1 f hf ef => ⟨fun _ => c_pick hg rg ⟨hg.kd, ?_⟩, fun hz => absurd hz (by decide)⟩)
  · unfold W_X12_functionOf
    intro s1 e1
    have i1 : Iv s1 := by subst e1; exact h.z0
    intro P14 hP14
    refine k_sel hq (hP14 _ ?_)
    rw [nI_ix (n := q) (by omega), zf e1 177 _ (by omega), zf e1 178 _ (by omega)]
    refine ⟨inq, fun _ => H2 _ i1, fun hne => ⟨fun _ => H2 _ i1, fun hnn => ⟨inq, fun hlt => ?_, fun _ => H2 _ i1⟩⟩⟩
    exfalso
    rcases hS with b | ⟨b1, b2, b3, b4, b5, b6, b7, b8, b9, b10⟩
    · exact hne b.2.1
    · have h12 := b5.2.1
      rcases hn with hn | hn
      · rw [b1] at hn; exact absurd hn (by decide)
      · obtain ⟨n, en, hn31⟩ : ∃ n, v2 = nI n ∧ n < 2147483648 := by rw [i_ltI] at hnn; exact nI_ofU (Int.not_lt.mp hnn)
        rw [en, b4.1, nI_ltU (by omega) (by omega)] at hlt
        exact hn ⟨n, hlt, en⟩
  · rcases hS with b | ⟨_, b2, b3, b4, b5, b6, b7, b8, b9, b10⟩
    · rw [b.1] at b1; exact absurd b1 (by decide)
    · have h12 := b5.2.1
      subst ef
      obtain ⟨c1, c2, c3, c4, c5, c6, _⟩ := b3.2 f hf
      obtain ⟨d1, d2, d3, d4, d5, d6, _⟩ := b4.2 f hf
      have inf : vp_in (nI f) 12 := nI_inU (by omega) (by omega)
      have in36 : vp_in (nI (12 * q + f)) 36 := nI_inU (by omega) (by omega)
      rw [nI_ix (n := f) (by omega), c1, c2, c4, c5, c6]
      have key : ∀ r, (v3.toInt < 0 ∨ 4 < v3.toInt → r = -1) → (v3.toInt = 0 → r = nI (fP l[f])) → (v3.toInt = 1 → r = nI (fL l[f])) → (v3.toInt = 2 → r = nI (fR l[f])) → (v3.toInt = 3 → r = nI (fC l[f]).length) → (v3.toInt = 4 → r = nI (fH l[f]).length) → Q r := by
        intro r k0 k1 k2 k3 k4 k5
        refine H r (fun Q2 H2 => ?_)
        unfold W_X12_functionOf
        intro s1 e1
        have i1 : Iv s1 := by subst e1; exact h.z0
        have go : ∀ y, r = y → Q2 y s1 := fun y hy => by rw [← hy]; exact H2 _ i1
        intro P14 hP14
        refine k_sel hq (hP14 _ ?_)
        rw [nI_ix (n := q) (by omega), zf e1 177 _ (by omega), b2, zf e1 178 _ (by omega), b4.1, nI_ltU (by omega) (by omega), nI_mul, nI_addU]
        refine ⟨inq, fun hz => absurd hz (by decide), fun _ => ⟨fun hz => absurd hz (by rw [nI_0U, nI_ltU (by omega) (by omega)]; omega), fun _ => ⟨inq, fun _ => ?_, fun hz => absurd hf hz⟩⟩⟩
        intro x5 e5
        subst e5
        rw [nI_ix (n := 12 * q + f) (by omega), zf e1 179 _ (by omega), d1, zf e1 180 _ (by omega), d2, zf e1 182 _ (by omega), d4, zf e1 184 _ (by omega), d5, zf e1 185 _ (by omega), d6]
        have ti : ∀ {n : Nat}, n < 5 → (v3 = nI n ↔ v3.toInt = n) := fun {n} hn => by
          constructor
          · intro e; rw [e, nI_toIntU (by omega)]
          · intro e; exact Int32.toInt_inj.mp (by rw [e, nI_toIntU (by omega)])
        have t0 : v3 = 0 ↔ v3.toInt = 0 := ti (n := 0) (by omega)
        have t1 : v3 = 1 ↔ v3.toInt = 1 := ti (n := 1) (by omega)
        rw [t0, t1, ti (by omega), ti (by omega), ti (by omega)]
        refine ⟨fun n0 => ⟨fun n1 => ⟨fun n2 => ⟨fun n3 => ⟨fun n4 => go _ (k0 (by omega)), fun c => ⟨in36, go _ (k5 c)⟩⟩, fun c => ⟨in36, go _ (k4 c)⟩⟩, fun c => ⟨in36, go _ (k3 c)⟩⟩, fun c => ⟨in36, go _ (k2 c)⟩⟩, fun c => ⟨in36, go _ (k1 c)⟩⟩
      refine ⟨fun c => key _ (fun _ => rfl) ?_ ?_ ?_ ?_ ?_, fun c => ⟨inf, key _ ?_ (fun _ => rfl) ?_ ?_ ?_ ?_⟩, fun c => ⟨inf, key _ ?_ ?_ (fun _ => rfl) ?_ ?_ ?_⟩, fun c => ⟨inf, key _ ?_ ?_ ?_ (fun _ => rfl) ?_ ?_⟩, fun c => ⟨inf, key _ ?_ ?_ ?_ ?_ (fun _ => rfl) ?_⟩, fun c => ⟨inf, key _ ?_ ?_ ?_ ?_ ?_ (fun _ => rfl)⟩⟩ <;> (intro c'; exfalso; omega)
end

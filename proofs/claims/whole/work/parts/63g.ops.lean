theorem byt_lt {v : Int32} {w b : Nat} (h : b ∈ byt v w) : b < 256 := by
  unfold byt at h
  obtain ⟨x, _, e⟩ := List.mem_map.mp h
  subst e; exact bv_lt _
theorem pIs_lt {c : List (Nat × Int32)} {b : Nat} (h : b ∈ pIs c) : b < 256 := by
  unfold pIs at h
  obtain ⟨y, _, h⟩ := List.mem_flatMap.mp h
  unfold pI at h
  rcases List.mem_append.mp h with h | h <;> exact byt_lt h
theorem pHs_lt {c : List Hn} {b : Nat} (h : b ∈ pHs c) : b < 256 := by
  unfold pHs at h
  obtain ⟨y, _, h⟩ := List.mem_flatMap.mp h
  unfold pH at h
  simp only [List.mem_append] at h
  rcases h with h | h | h | h | h <;> exact byt_lt h
theorem pFs_lt : ∀ {l : List Fn} {b : Nat}, b ∈ pFs l → b < 256
  | [], b, h => by simp [pFs] at h
  | x :: l, b, h => by
    have h : b ∈ pF x (pFs l) := h
    unfold pF at h
    simp only [List.mem_append] at h
    rcases h with h | h | h | h | h | h | h | h | h
    · exact byt_lt h
    · exact byt_lt h
    · exact byt_lt h
    · exact byt_lt h
    · exact byt_lt h
    · exact pIs_lt h
    · exact byt_lt h
    · exact pHs_lt h
    · exact pFs_lt h
theorem pP_lt {l : List Fn} {b : Nat} (h : b ∈ pP l) : b < 256 := by
  unfold pP at h
  simp only [List.mem_append] at h
  rcases h with h | h | h | h | h
  · exact byt_lt h
  · exact byt_lt h
  · exact byt_lt h
  · exact byt_lt h
  · exact pFs_lt h
section
variable {l : List Fn} {ps : PS} {an : Nat → Int32} {na fu : Nat}
theorem rai_O {z : MS} {c : Int32} {fs : List Fr} : aO (rai l c fs z).1 = aO z := by
  unfold rai; split <;> rfl
theorem xDo_O {z : MS} {o : Nat} {w : Int32} {r : Fr} {fs : List Fr} : aO (xDo l an na o w r fs z).1 ≤ aO z + 1 := by
  unfold xDo
  split; · exact Nat.le_succ _
  split
  · unfold xInts; split
    · rw [rai_O]; exact Nat.le_succ _
    · exact Nat.le_succ _
  split
  · unfold xJump; split <;> exact Nat.le_succ _
  split
  · unfold xNew; split
    · rw [rai_O]; exact Nat.le_succ _
    · exact Nat.le_succ _
  split
  · unfold xGet; split
    · rw [rai_O]; exact Nat.le_succ _
    · exact Nat.le_succ _
  split
  · unfold xPut; split
    · rw [rai_O]; exact Nat.le_succ _
    · exact Nat.le_succ _
  split; · exact Nat.le_succ _
  split
  · unfold xCall; split
    · rw [rai_O]; exact Nat.le_succ _
    · exact Nat.le_succ _
  split; · exact Nat.le_refl _
  split
  · unfold xRet; split <;> exact Nat.le_succ _
  rw [rai_O]; exact Nat.le_succ _
theorem exe_O {z : MS} : aO (exe l ps an na z).1 ≤ aO z + 1 := by
  unfold exe
  split
  · exact Nat.le_succ _
  · split
    · unfold xGuard; split <;> exact Nat.le_succ _
    · exact xDo_O (z := stp1 z)
theorem runP_O : ∀ (k : Nat) (z : MS), aO (runP l ps an na fu k z).1 ≤ aO z + k ∧ (runP l ps an na fu k z).2.1 ≤ 3
  | 0, z => ⟨Nat.le_refl _, Nat.le_refl _⟩
  | k + 1, z => by
    by_cases c : aS z = fu
    · rw [runP_fu c]; exact ⟨by show aO z ≤ _; omega, Nat.le_refl _⟩
    · have ho := exe_O (l := l) (ps := ps) (an := an) (na := na) (z := z)
      cases hx : (exe l ps an na z).2 with
      | some e =>
        rw [runP_end c hx]
        exact ⟨by show aO (exe l ps an na z).1 ≤ _; omega, by have := exe_how hx; show e.1 ≤ 3; omega⟩
      | none =>
        rw [runP_go c hx]
        have := runP_O k (exe l ps an na z).1
        exact ⟨by omega, this.2⟩
end
section
variable {s : yS}
theorem op_save {v : Int32} {Q : Int32 → yS → Prop} (h : Iv s) (H : ∀ r s1, (∀ Q2 : Int32 → yS → Prop, (∀ s2, Iv s2 → Q2 r s2) → W_X12_saveProgram s1 v Q2) → Q r s1) : W_X11_saveProgram s v Q := by
  obtain ⟨pc, g, q, hi, l, ps, S, an, na, hq, hhi, hpp, r6, hg, rg, hS, hm, p4, p5, p6, p7, hN, _, _, wri⟩ := h.slot v
  have hsq : selQ v = q := by rw [hq]; rfl
  have h37 : g = 37 ∨ g = 55 ∨ g = 73 := hg
  unfold W_X11_saveProgram
  refine c_has hhi hS.bb ?_
  rcases hS with ⟨b1, b2, b3⟩ | ⟨b1, b2, b3, b4, b5, b6, b7, b8, b9, b10⟩
  · rw [b1]
    refine ⟨fun hz => absurd rfl hz, fun _ => H _ s (fun Q2 H2 => k_saveProgram (l := l) (Or.inl (by rw [hsq]; exact b2)) (fun _ => H2 _ h.z0) (fun hz => ?_))⟩
    rw [hsq, b2] at hz; exact absurd hz (by decide)
  · rw [b1]
    refine ⟨fun _ => c_pick hg rg ⟨hg.kd, c_write hg b3 b5 (fun s4 F4 a4 => ?_)⟩, fun hz => absurd hz (by decide)⟩
    intro s5 e5
    have n5 : ∀ a i, ¬ (a = 0 ∧ i = 3) → sI s5 a i = sI s4 a i := fun a i h => by subst e5; rw [sI_w, if_neg h]
    have F5 : frM (fun a i => a = 2 ∨ (a = 0 ∧ i = 3)) s s5 := by subst e5; exact (F4.mono (fun a i h => Or.inl h)).wI (by omega)
    have c5 : sI s5 0 3 = nI (pP l).length := by subst e5; rw [sI_w, if_pos ⟨rfl, rfl⟩]
    rw [c5]
    refine H _ s5 (fun Q2 H2 => k_saveProgram (l := l) (Or.inr (by rw [hsq]; exact ⟨(F5.1 _ _ (by omega)).trans b2, b4.fr (fun a i ha => F5.1 _ _ (by omega)), b5⟩)) (fun hz => ?_) (fun _ s' F' a' => ?_))
    · rw [hsq, F5.1 _ _ (by omega), b2] at hz; exact absurd hz (by decide)
    · refine H2 s' (wri s' ((F5.f0.mono (fun a i h => by unfold uW; omega)).trans (F'.f0.mono (fun a i h => by unfold dWm at h; unfold uW; omega))) (pP l) ⟨fun j hj => ?_, ?_, a', ?_, fun b hb => pP_lt hb⟩)
      · rw [F'.1 _ _ (by unfold dWm; omega), n5 _ _ (by omega)]; exact a4 j hj
      · rw [F'.1 _ _ (by unfold dWm; omega)]; exact c5
      · rw [pP_len b5.wk]; exact b5.2.2.2
theorem op_run {v1 v2 : Int32} {Q : Int32 → yS → Prop} (h : Iv s) (H : ∀ r s1, (∀ Q2 : Int32 → yS → Prop, (∀ s2, Iv s2 → Q2 r s2) → W_X12_runIt s1 v1 v2 Q2) → Q r s1) : W_X11_runIt s v1 v2 Q := by
  obtain ⟨pc, g, q, hi, l, ps, S, an, na, hq, hhi, hpp, r6, hg, rg, hS, hm, p4, p5, p6, p7, hN, _, run, _⟩ := h.slot v1
  have h37 : g = 37 ∨ g = 55 ∨ g = 73 := hg
  have hkp : kd pc = some (7, 0) := by rcases hpp with e | e <;> (rw [e]; rfl)
  have hq1 : q ≤ 1 := by rw [hq]; split <;> omega
  have no : (sI s 177 q = 0 ∨ v2 < 0 ∨ ¬ v2 ≤ nI 20000) → Q (-1) s := fun hb => H _ s (fun Q2 H2 => by
    refine k_runIt (l := l) (an := an) (na := na) hq (fun _ s' F' _ => H2 _ (h.fr (F'.mono (fun a i h => by unfold dJk; omega)))) (fun hne => ?_) hm hm.head p4 hN.2 (fun hne fu hfu efu => ?_)
    · rcases hS with ⟨b1, b2, b3⟩ | ⟨b1, b2, b3, b4, b5, b6, b7, b8, b9, b10⟩
      · exact absurd b2 hne
      · exact ⟨b5, b6, b4⟩
    · exfalso
      subst efu
      rcases hb with hb | hb | hb
      · exact hne hb
      · rw [nI_0U, nI_ltU (by omega) (by omega)] at hb; omega
      · rw [nI_leU (by omega) (by omega)] at hb; omega)
  unfold W_X11_runIt
  refine c_has hhi hS.bb ?_
  rcases hS with ⟨b1, b2, b3⟩ | ⟨b1, b2, b3, b4, b5, b6, b7, b8, b9, b10⟩
  · rw [b1]
    exact ⟨fun _ => no (Or.inl b2), fun hz => absurd rfl hz⟩
  · rw [b1]
    refine ⟨fun hz => absurd hz (by decide), fun _ => ⟨fun hn => no (Or.inr (Or.inl hn)), fun hnn => ⟨fun hle => ?_, fun hgt => no (Or.inr (Or.inr hgt))⟩⟩⟩
    obtain ⟨fu, efu, hf31⟩ : ∃ n, v2 = nI n ∧ n < 2147483648 := by rw [i_ltI] at hnn; exact nI_ofU (Int.not_lt.mp hnn)
    subst efu
    have hfu : fu ≤ 20000 := by rw [nI_leU (by omega) (by omega)] at hle; omega
    refine c_pick hg rg ⟨hg.kd, pc, r6, hkp, c_run b5 b6 hm hm.head hg hpp b3 p5 p6 hN.1 hfu (fun s4 F4 e4 q4 => ⟨nI_inU (a := 0) (by omega) (by omega), ?_⟩)⟩
    rw [show ix 0 = 0 from rfl, e4.2.1]
    obtain ⟨rO, r3⟩ := runP_O (l := l) (ps := ps) (an := an) (na := na) (fu := fu) 8020401 z0
    have rO : aO (rnP l ps an na fu).1 ≤ 0 + 8020401 := rO
    have r3 : (rnP l ps an na fu).2.1 ≤ 3 := r3
    have K4 : ∀ a i, 139 ≤ a → sI s4 a i = sI s a i := fun a i ha => F4.1 _ _ (by unfold dRun; omega) (by omega)
    refine H _ s4 (fun Q2 H2 => ?_)
    refine k_runIt (l := l) (an := an) (na := na) hq (fun hb => ?_) (fun _ => ⟨b5, b6, b4.fr (fun a i ha => K4 _ _ (by omega))⟩) hm hm.head (p4.fr (fun a i ha => K4 _ _ (by omega)) (fun a i ha => F4.2.1 _ _ (by unfold dRun; omega))) ⟨(K4 _ _ (by omega)).trans hN.2.1, hN.2.2.1, fun i hi => (K4 _ _ (by omega)).trans (hN.2.2.2 i hi)⟩ (fun hne fu' hfu' efu' s' F' B' m96 _ m89 m90 m91 => ?_)
    · exfalso
      rcases hb with hb | hb | hb
      · rw [K4 _ _ (by omega), b2] at hb; exact absurd hb (by decide)
      · exact hnn hb
      · exact hb hle
    · obtain rfl : fu = fu' := (nI_inj (by omega) (by omega)).mp efu'
      refine H2 s' (run s' ?_ (Or.inr ⟨m89, (rnP l ps an na fu).1, (rnP l ps an na fu).2.1, (rnP l ps an na fu).2.2, r3, by omega, ⟨e4.1.fr (fun a i ha => F'.1 _ _ (by unfold dRn dRm; omega)), (F'.1 _ _ (by unfold dRn dRm; omega)).trans e4.2.1, (F'.1 _ _ (by unfold dRn dRm; omega)).trans e4.2.2⟩, (F'.1 _ _ (by unfold dRn dRm; omega)).trans q4, B', m90, m91, m96⟩))
      have f4 : fr0 (fun a i => dRun a i ∨ (a = 123 ∧ i = 13) ∨ dRn a i) s s4 := ⟨fun a i hn => F4.1 a i (fun h => hn (Or.inl h)) (fun h => hn (Or.inr (Or.inl h))), fun a i hn => F4.2.1 a i (fun h => hn (Or.inl h)), fun i => F4.2.2 _ _ (by omega)⟩
      exact f4.trans (F'.f0.mono (fun a i h => Or.inr (Or.inr h)))
end

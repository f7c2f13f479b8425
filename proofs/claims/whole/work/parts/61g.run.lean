def z0 : MS := ([(0, 0, [], fun _ => 0)], ((fun _ => 0), 0, []), (0, 0, 0, 1), (1, (fun _ => 0), (fun _ => 0)))
section
variable {l : List Fn} {ps : PS} {S : List Int32} {an : Nat → Int32} {na fu : Nat} {z : MS}
theorem z0_ok (hok : pgOK l) (hva : vAll l = none) : MOK l z0 := by
  have h0 : 0 < l.length := hok.1
  have ht := vTy_ty hok hva h0
  exact ⟨⟨⟨h0, (ht.2.1 0 [] ht.1).2, ht.1, fun y hy => by simp [jS] at hy, fun j hj _ => ⟨0, Nat.le_refl _, rfl⟩⟩, rfl⟩, Nat.le_refl _, by show 1 ≤ 40; omega, ⟨Nat.zero_le _, fun y hy => by simp [z0, aR2] at hy⟩, Nat.le_refl _, Nat.le_refl _⟩
theorem rai_S {c : Int32} {fs : List Fr} : aS (rai l c fs z).1 = aS z := by
  unfold rai; split <;> rfl
theorem xDo_S {o : Nat} {w : Int32} {r : Fr} {fs : List Fr} : aS (xDo l an na o w r fs z).1 = aS z := by
  unfold xDo
  split; · rfl
  split
  · unfold xInts; split
    · exact rai_S
    · rfl
  split
  · unfold xJump; split <;> rfl
  split
  · unfold xNew; split
    · exact rai_S
    · rfl
  split
  · unfold xGet; split
    · exact rai_S
    · rfl
  split
  · unfold xPut; split
    · exact rai_S
    · rfl
  split; · rfl
  split
  · unfold xCall; split
    · exact rai_S
    · rfl
  split; · rfl
  split
  · unfold xRet; split <;> rfl
  exact rai_S
theorem rai_how {c : Int32} {fs : List Fr} {e : Nat × Int32} (h : (rai l c fs z).2 = some e) : e.1 ≤ 2 := by
  unfold rai at h
  split at h
  · exact no_so h
  · have := Option.some.inj h; subst this; show 1 ≤ 2; omega
theorem exe_how {e : Nat × Int32} (h : (exe l ps an na z).2 = some e) : e.1 ≤ 2 := by
  unfold exe at h
  split at h
  · have := Option.some.inj h; subst this; show 0 ≤ 2; omega
  · split at h
    · unfold xGuard at h
      split at h
      · have := Option.some.inj h; subst this; show 2 ≤ 2; omega
      · exact no_so h
    · unfold xDo at h
      split at h; · exact no_so h
      split at h
      · unfold xInts at h; split at h
        · exact rai_how h
        · exact no_so h
      split at h
      · unfold xJump at h; split at h <;> exact no_so h
      split at h
      · unfold xNew at h; split at h
        · exact rai_how h
        · exact no_so h
      split at h
      · unfold xGet at h; split at h
        · exact rai_how h
        · exact no_so h
      split at h
      · unfold xPut at h; split at h
        · exact rai_how h
        · exact no_so h
      split at h; · exact no_so h
      split at h
      · unfold xCall at h; split at h
        · exact rai_how h
        · exact no_so h
      split at h; · exact no_so h
      split at h
      · unfold xRet at h; split at h
        · have := Option.some.inj h; subst this; show 0 ≤ 2; omega
        · exact no_so h
      exact rai_how h
def tpP (z : MS) : Nat := match aF z with
  | [] => 0
  | r :: _ => jP r
theorem tpP_lt (hok : pgOK l) (hz : MOK l z) : tpP z < 400 := by
  have h := hz.1
  unfold tpP
  cases hF : aF z with
  | nil => show 0 < 400; omega
  | cons r fs =>
    rw [hF] at h
    obtain ⟨⟨hf, hp, _⟩, _⟩ := h
    have := (hok.2.2.1 _ hf).2.2.2.2.2.2.2.2.1
    show jP r < 400
    omega
/-- rounds go on -/
theorem exe_phi (hok : pgOK l) (hz : MOK l z) (hn : (exe l ps an na z).2 = none) : 401 * aS z + tpP z + 1 ≤ 401 * aS (exe l ps an na z).1 + tpP (exe l ps an na z).1 ∧ aS (exe l ps an na z).1 ≤ aS z + 1 := by
  have hlt := tpP_lt hok hz
  unfold exe at hn ⊢
  cases hF : aF z with
  | nil => rw [hF] at hn; exact so_no hn
  | cons r fs =>
    rw [hF] at hn
    dsimp only at hn ⊢
    have ht : tpP z = jP r := by unfold tpP; rw [hF]
    by_cases c : opA (fnA l (jF r)) (jP r) = 29
    · rw [if_pos c] at hn ⊢
      unfold xGuard at hn ⊢
      split at hn
      · exact so_no hn
      · rename_i h0
        rw [if_neg h0]
        refine ⟨?_, Nat.le_succ _⟩
        show 401 * aS z + tpP z + 1 ≤ 401 * aS z + (jP r + 1)
        omega
    · rw [if_neg c, xDo_S, show aS (stp1 z) = aS z + 1 from rfl]
      refine ⟨by omega, Nat.le_refl _⟩
theorem runP_end {k : Nat} {e : Nat × Int32} (hs : ¬ aS z = fu) (hn : (exe l ps an na z).2 = some e) : runP l ps an na fu (k + 1) z = ((exe l ps an na z).1, e.1, e.2) := by
  rw [runP, if_neg hs, hn]
theorem runP_go {k : Nat} (hs : ¬ aS z = fu) (hn : (exe l ps an na z).2 = none) : runP l ps an na fu (k + 1) z = runP l ps an na fu k (exe l ps an na z).1 := by
  rw [runP, if_neg hs, hn]
theorem runP_fu {k : Nat} (hs : aS z = fu) : runP l ps an na fu (k + 1) z = (z, 3, 0) := by rw [runP, if_pos hs]
/-- all that a run leaves -/
def rnP (l : List Fn) (ps : PS) (an : Nat → Int32) (na fu : Nat) : MS × Nat × Int32 := runP l ps an na fu 8020401 z0
end
section
variable {s : yS} {g p na fu : Nat} {l : List Fn} {ps : PS} {S : List Int32} {an : Nat → Int32}
def frR (s s' : yS) : Prop := (∀ a i, ¬ dRun a i → ¬ (a = 123 ∧ i = 13) → sI s' a i = sI s a i) ∧ (∀ a i, ¬ dRun a i → sJ s' a i = sJ s a i) ∧ ∀ a i, ¬ (a = 123 ∧ (i = 11 ∨ i = 12)) → sR s' a i = sR s a i
set_option maxHeartbeats 1000000 in
theorem c_run {Q : yS → Prop} (hok : pgOK l) (hva : vAll l = none) (hm : mkd ps S) (hS1 : S.head? = some 1) (hg : gOK g) (hp3 : p = 3 ∨ p = 20) (hp : pgC s g l) (hpl : plC s p ps S) (hpu : puC s p ps) (han : anC s an na) (hfu : fu ≤ 20000)
    (H : ∀ s', frR s s' → eC s' ps S (rnP l ps an na fu).1 (rnP l ps an na fu).2.1 (rnP l ps an na fu).2.2 → sI s' 124 5 = nI (stQ ps S (aX (rnP l ps an na fu).1)) → Q s') : W_X2_run s g p (nI fu) Q := by
  have hgv : g = 37 ∨ g = 55 ∨ g = 73 := hg
  have h12 := hok.2.1
  have h0l : 0 < l.length := hok.1
  unfold W_X2_run
  intro s1 e1 s2 e2 s3 e3
  have n3 : ∀ a i, ¬ (a = 123 ∧ i = 13) → sI s3 a i = sI s a i := fun a i h => by subst e3; rw [sI_w, if_neg h]; subst e2; subst e1; rfl
  have J3 : ∀ a i, sJ s3 a i = sJ s a i := fun a i => by subst e3; subst e2; subst e1; rfl
  have R3 : ∀ a i, ¬ (a = 123 ∧ (i = 11 ∨ i = 12)) → sR s3 a i = sR s a i := fun a i h => by
    subst e3
    show sR s2 a i = _
    subst e2; rw [sR_w, if_neg (by omega)]; subst e1; rw [sR_w, if_neg (by omega)]
  have r11 : sR s3 123 11 = g + 1 := by
    subst e3
    show sR s2 123 11 = _
    subst e2; rw [sR_w, if_neg (by omega)]; subst e1; rw [sR_w, if_pos ⟨rfl, rfl⟩]
  have r12 : sR s3 123 12 = p + 1 := by
    subst e3
    show sR s2 123 12 = _
    subst e2; rw [sR_w, if_pos ⟨rfl, rfl⟩]
  have f3 : sI s3 123 13 = nI fu := by subst e3; rw [sI_w, if_pos ⟨rfl, rfl⟩]
  clear e3 e2 e1
  refine c_fill (by omega) (fun s4 F4 v4 => ⟨nI_inU (a := 0) (by omega) (by omega), ?_⟩)
  rw [show ix 0 = 0 from rfl]
  intro s6 e6
  unfold W_X10_begin
  intro s6' e6'
  refine c_fill (by omega) (fun s7 F7 v7 => ?_)
  intro s8 e8 s9 e9
  have n9 : ∀ a i, ¬ dRun a i → sI s9 a i = sI s3 a i := fun a i h => by
    unfold dRun at h
    subst e9; rw [sI_w, if_neg (by omega)]; subst e8; rw [sI_w, if_neg (by omega), F7.1 _ _ (by omega)]; subst e6'; rw [sI_w, if_neg (by omega)]; subst e6; rw [sI_w, if_neg (by omega), F4.1 _ _ (by omega)]
  have F9 : frM dRun s3 s9 := by
    have q4 : frM dRun s3 s4 := F4.mono (fun a i h => by unfold dRun; omega)
    have q6 : frM dRun s3 s6' := by subst e6'; subst e6; exact (q4.wI (by unfold dRun; omega)).wI (by unfold dRun; omega)
    have q7 : frM dRun s3 s7 := q6.trans (F7.mono (fun a i h => by unfold dRun; omega))
    subst e9; subst e8
    exact (q7.wI (by unfold dRun; omega)).wI (by unfold dRun; omega)
  have fig9 : ∀ i, i < 8 → ¬ i = 0 → sI s9 124 i = 0 := fun i hi h0 => by
    subst e9; rw [sI_w, if_neg (by omega)]; subst e8; rw [sI_w, if_neg (by omega), F7.1 _ _ (by omega)]; subst e6'; rw [sI_w, if_neg (by omega)]; subst e6; rw [sI_w, if_neg (by omega)]; exact v4 i hi
  have fig0 : sI s9 124 0 = -1 := by
    subst e9; rw [sI_w, if_neg (by omega)]; subst e8; rw [sI_w, if_neg (by omega), F7.1 _ _ (by omega)]; subst e6'; rw [sI_w, if_neg (by omega)]; subst e6; rw [sI_w, if_pos ⟨rfl, rfl⟩]
  have w9 : sI s9 125 0 = 0 := by subst e9; rw [sI_w, if_neg (by omega)]; subst e8; rw [sI_w, if_neg (by omega), F7.1 _ _ (by omega)]; subst e6'; rw [sI_w, if_pos ⟨rfl, rfl⟩]
  have k9 : ∀ k, k < 6 → sI s9 126 k = 0 := fun k hk => by subst e9; rw [sI_w, if_neg (by omega)]; subst e8; rw [sI_w, if_neg (by omega)]; exact v7 k hk
  have d9 : sI s9 123 14 = -1 := by subst e9; rw [sI_w, if_neg (by omega)]; subst e8; rw [sI_w, if_pos ⟨rfl, rfl⟩]
  have t9 : sI s9 123 17 = nI 0 := by subst e9; rw [sI_w, if_pos ⟨rfl, rfl⟩]; rfl
  clear e9 e8 e6' e6
  have s3c : stMa s3 g p l ps S an na fu := by
    refine ⟨hg, hp3, r11, r12, hp.fr (fun a i ha => n3 _ _ (by omega)), hpl.fr (fun a i ha => n3 _ _ (by omega)) (fun a i _ => J3 _ _), hpu.fr2 (fun a i h1 h2 => n3 _ _ (by omega)), f3, (n3 _ _ (by omega)).trans han.1, han.2.1, fun i hi => (n3 _ _ (by omega)).trans (han.2.2 i hi)⟩
  have s9c := s3c.fr F9
  obtain ⟨_, _, r11', _, hp9, _⟩ := id s9c
  have hP0 : fP l[0] = 0 := (hok.2.2.1 0 h0l).2.1 rfl
  have hpar := (hp9.2 0 h0l).1
  rw [hP0] at hpar
  unfold W_X2_enter
  refine ⟨g, r11', hg.kd, nI_inU (a := 0) (by omega) (by omega), ?_⟩
  rw [show ix 0 = 0 from rfl, hpar]
  intro x3 e3
  subst e3
  intro P53 hP53
  rw [d9]
  refine ⟨fun _ => ?_, fun hz => absurd (by decide) hz⟩
  have h1Q := stQ_one hm hS1
  refine hP53 _ (c_enterIn (R := []) (l := l) (c := 0) (np := 0) (b := 0) (K := 0) (D := 0) (w := []) hg (by omega) (by omega) (by omega) (by omega) (Nat.zero_le _) (by omega) t9 (fig9 7 (by omega) (by omega)) (by rw [d9]; rfl) (fun j hj => by omega) (fun j hj => by omega) (fun s10 F10 tp10 p10 m10 => ?_))
  have F10r : frM dRun s3 s10 := F9.trans (F10.mono (fun a i h => by unfold dRun; omega))
  have M10 : mC s10 l ps S z0 := by
    refine ⟨⟨tp10, trivial⟩, fun q fs he => ?_, ⟨⟨?_, fun a ha => absurd ha (Nat.not_lt_zero _)⟩, ⟨?_, ?_, ?_, m10⟩, ⟨?_, h1Q.1, fun k hk => ?_, fun k hk => ⟨0, Nat.zero_le _, rfl⟩⟩, fun i hi => absurd hi (Nat.not_lt_zero _)⟩, ?_, ?_⟩
    · have he : [(0, 0, [], fun _ => 0)] = q :: fs := he
      cases he; exact p10
    · rw [F10.1 _ _ (by omega)]; exact fig9 6 (by omega) (by omega)
    · rw [F10.1 _ _ (by omega)]; exact fig9 2 (by omega) (by omega)
    · rw [F10.1 _ _ (by omega)]; exact fig9 3 (by omega) (by omega)
    · rw [F10.1 _ _ (by omega)]; exact fig9 4 (by omega) (by omega)
    · rw [F10.1 _ _ (by omega), w9]
      show 0 = nI (stQ ps S 1)
      rw [h1Q.2]; rfl
    · rw [F10.1 _ _ (by omega)]; exact k9 k hk
    · rw [F10.1 _ _ (by omega)]; exact fig0
    · rw [F10.1 _ _ (by omega)]; exact fig9 1 (by omega) (by omega)
  have s10c := s3c.fr F10r
  intro P55 hP55
  -- it is over
  have over : ∀ (n : Nat) (t : yS), frM dRun s3 t → eC t ps S (rnP l ps an na fu).1 (rnP l ps an na fu).2.1 (rnP l ps an na fu).2.2 → ¬ sI t 124 0 = -1 → P55 (nI n) t := by
    intro n t Ft et hne
    apply hP55
    intro P82 hP82
    have fin : P82 := by
      apply hP82
      refine ⟨nI_inU (by omega) (by omega), ?_⟩
      rw [nI_ix (n := 5) (by omega)]
      intro s14 e14
      have n14 : ∀ a i, ¬ (a = 124 ∧ i = 5) → sI s14 a i = sI t a i := fun a i h => by subst e14; rw [sI_w, if_neg h]
      refine H s14 ⟨fun a i h h13 => ?_, fun a i h => ?_, fun a i h => ?_⟩ ⟨et.1.fr (fun a i ha => n14 _ _ (by omega)), (n14 _ _ (by omega)).trans et.2.1, (n14 _ _ (by omega)).trans et.2.2⟩ ?_
      · rw [n14 _ _ (by unfold dRun at h; omega), Ft.1 a i h, n3 a i h13]
      · subst e14
        show sJ t a i = _
        rw [Ft.2.1 a i h, J3]
      · subst e14
        show sR t a i = _
        rw [Ft.2.2, R3 a i h]
      · subst e14; rw [sI_w, if_pos ⟨rfl, rfl⟩]; exact et.1.2.2.1.1
    exact ⟨fun _ => fin, fun _ => ⟨nI_inU (a := 0) (by omega) (by omega), fun _ => fin, fun hz => absurd hz hne⟩⟩
  suffices hL : ∀ (k n : Nat) (z : MS) (t : yS), n + k = 8020401 → n ≤ 401 * aS z + tpP z → rnP l ps an na fu = runP l ps an na fu k z → aS z ≤ fu → MOK l z → mC t l ps S z → frM dRun s3 t → P55 (nI n) t from
    hL 8020401 0 z0 s10 (by omega) (Nat.zero_le _) rfl (Nat.zero_le _) (z0_ok hok hva) M10 F10r
  intro k
  induction k with
  | zero =>
    intro n z t hn hph _ hsf hz _ _
    have := tpP_lt hok hz
    omega
  | succ k ih =>
    intro n z t hn hph hrn hsf hz hM Ft
    have hlt := tpP_lt hok hz
    have tc := s3c.fr Ft
    apply hP55
    intro P82 hP82
    rw [show (8020401 : Int32) = nI 8020401 from rfl, hM.2.2.2.1]
    refine ⟨fun hz => absurd ((nI_leU (by omega) (by omega)).mp hz) (by omega), fun _ => ⟨nI_inU (a := 0) (by omega) (by omega), fun hz => absurd rfl hz, fun _ => ?_⟩⟩
    by_cases hsu : aS z = fu
    · -- no fuel
      rw [runP_fu hsu] at hrn
      unfold W_X2_step
      rw [nI_ix (n := 2) (by omega), hM.2.2.1.2.1.1, tc.2.2.2.2.2.2.2.1, nI_inj (by omega) (by omega)]
      refine ⟨nI_inU (by omega) (by omega), fun hz => absurd hsu hz, fun _ => ?_⟩
      unfold W_X2_end
      refine ⟨nI_inU (a := 0) (by omega) (by omega), ?_⟩
      intro u2 e2
      refine ⟨nI_inU (a := 1) (by omega) (by omega), ?_⟩
      intro u4 e4
      rw [show ix 0 = 0 from rfl] at e2
      rw [show ix 1 = 1 from rfl] at e4
      intro x17 e17
      subst e17; rw [nI_s]
      have q0 : sI u4 124 0 = nI 3 := by subst e4; rw [sI_w, if_neg (by omega)]; subst e2; rw [sI_w, if_pos ⟨rfl, rfl⟩]
      refine over (n + 1) u4 (by subst e4; subst e2; exact (Ft.wI (by unfold dRun; omega)).wI (by unfold dRun; omega)) ?_ (by rw [q0]; decide)
      rw [hrn]
      refine ⟨hM.2.2.1.fr (fun a i ha => ?_), q0, by subst e4; rw [sI_w, if_pos ⟨rfl, rfl⟩]⟩
      subst e4; rw [sI_w, if_neg (by omega)]; subst e2; rw [sI_w, if_neg (by omega)]
    · refine c_step hok hva hm tc hz hM hsu hsf hfu (fun s' F' he hmm => ?_)
      intro x17 e17
      subst e17; rw [nI_s]
      cases hx : (exe l ps an na z).2 with
      | some e =>
        rw [runP_end hsu hx] at hrn
        have hee := he e hx
        have hne : ¬ sI s' 124 0 = -1 := by
          rw [hee.2.1]
          apply nI_ne1
          have := exe_how hx; omega
        refine over (n + 1) s' (Ft.trans F') ?_ hne
        rw [hrn]; exact hee
      | none =>
        rw [runP_go hsu hx] at hrn
        have hph2 := exe_phi hok hz hx
        exact ih (n + 1) _ s' (by omega) (by omega) hrn (by omega) (exe_ok hok hva hz hx) (hmm hx) (Ft.trans F')
end

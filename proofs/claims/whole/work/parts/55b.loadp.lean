/-! ===== PURE: programs loaded ===== -/
def ldP (B : Nat → Nat) (nb : Nat) : PE (List Fn) := match bdP B nb with
  | .error e => .error e
  | .ok l => match vAll l with
    | some e => .error e
    | none => .ok l
section
variable {s : yS} {B : Nat → Nat} {nb g g2 : Nat}
theorem ldP_er {e : Nat × Nat} (h : bdP B nb = .error e) : ldP B nb = .error e := by unfold ldP; rw [h]
theorem ldP_ve {l : List Fn} {e : Nat × Nat} (h : bdP B nb = .ok l) (h2 : vAll l = some e) : ldP B nb = .error e := by unfold ldP; rw [h]; dsimp only; rw [h2]
theorem ldP_ok {l : List Fn} (h : bdP B nb = .ok l) (h2 : vAll l = none) : ldP B nb = .ok l := by unfold ldP; rw [h]; dsimp only; rw [h2]
theorem ldP_is {l : List Fn} (h : ldP B nb = .ok l) : bdP B nb = .ok l ∧ vAll l = none := by
  unfold ldP at h
  cases h1 : bdP B nb with
  | error e => rw [h1] at h; exact er_ok h
  | ok l' =>
    rw [h1] at h
    dsimp only at h
    cases h2 : vAll l' with
    | some e => rw [h2] at h; exact er_ok h
    | none => rw [h2] at h; cases h; exact ⟨rfl, h2⟩
theorem vAll_58 {l : List Fn} {e : Nat × Nat} (h : vAll l = some e) : 5 ≤ e.1 ∧ e.1 ≤ 8 := by
  unfold vAll at h
  obtain ⟨k, hk, he⟩ := List.exists_of_findSome?_eq_some h
  rw [List.mem_range] at hk
  unfold vAt at he
  split at he
  · cases he; rename_i hv; exact vFun_err hv
  · exact no_so he
def dLd (g a i : Nat) : Prop := dRd g a i ∨ dVy g a i ∨ (a = 0 ∧ (i = 4 ∨ i = 5))
def frL (g : Nat) (s s' : yS) : Prop := (∀ a i, ¬ dLd g a i → sI s' a i = sI s a i) ∧ (∀ a i, ¬ dLd g a i → sJ s' a i = sJ s a i) ∧ ∀ a i, ¬ (a = 113 ∧ (i = 2 ∨ i = 6)) → ¬ (a = 114 ∧ i = 2) → sR s' a i = sR s a i
theorem c_loadProgram {Q : Int32 → yS → Prop} (hy : byC s B nb) (hg : gOK g) (hg2 : gOK g2) (hne : g ≠ g2) (hsp : (sR s 0 10) = g + 1) (hcu : (sR s 0 8) = g2 + 1)
    (Hok : ∀ l, ldP B nb = .ok l → pgOK l → ∀ s', (∀ a i, ¬ dLd g a i → ¬ (a = 0 ∧ (i = 11 ∨ i = 12)) → ¬ (a = 124 ∧ i = 0) → sI s' a i = sI s a i) → (∀ a i, ¬ dLd g a i → sJ s' a i = sJ s a i) → (∀ a i, ¬ (a = 113 ∧ (i = 2 ∨ i = 6)) → ¬ (a = 114 ∧ i = 2) → ¬ (a = 0 ∧ (i = 8 ∨ i = 10)) → sR s' a i = sR s a i) → (sR s' 0 8) = g + 1 → (sR s' 0 10) = g2 + 1 → pgC s' g l → tyD s' g l → sI s' g 13 = 0 → (sI s' 0 4) = 0 → (sI s' 0 5) = -1 → (sI s' 0 11) = 1 → (sI s' 0 12) = 0 → (sI s' 124) 0 = -1 → Q 0 s')
    (Herr : ∀ e, ldP B nb = .error e → 1 ≤ e.1 → e.1 ≤ 8 → ∀ s', frL g s s' → (sI s' 0 4) = nI e.1 → (sI s' 0 5) = nI e.2 → Q (nI e.1) s') : W_X11_loadProgram s Q := by
  have hgv : g = 37 ∨ g = 55 ∨ g = 73 := hg
  unfold W_X11_loadProgram
  refine ⟨g, hsp, hg.kd, ?_⟩
  rw [hy.2]
  refine c_read hg hy.1 (fun l hl hlo s3 F3 p3 r3 fp3 => ?_) (fun e he h1 h8 s3 F3 r3 fp3 => ?_)
  · intro s4 e4 s5 e5
    have n5 : ∀ a i, ¬ (a = 0 ∧ (i = 4 ∨ i = 5)) → sI s5 a i = sI s3 a i := fun a i h => by subst e5; rw [sI_w, if_neg (by omega)]; subst e4; rw [sI_w, if_neg (by omega)]
    have J5 : ∀ a i, sJ s5 a i = sJ s3 a i := fun a i => by subst e5; subst e4; rfl
    have R5 : ∀ a i, sR s5 a i = sR s3 a i := fun a i => by subst e5; subst e4; rfl
    have f5 : sI s5 0 4 = 0 := by subst e5; rw [sI_w, if_neg (by omega)]; subst e4; rw [sI_w, if_pos ⟨rfl, rfl⟩]
    clear e5 e4
    intro P67 hP67
    refine ⟨fun hz => absurd f5 hz, fun _ => ⟨g, ?_, hg.kd, ?_⟩⟩
    · rw [R5, F3.2.2 _ _ (by omega)]; exact hsp
    have p5 : pgC s5 g l := p3.fr (fun a i ha => n5 a i (by omega))
    have g13 : sI s5 g 13 = 0 := (n5 _ _ (by omega)).trans r3
    refine c_verify hg p5 hlo (fun hv s17 F17 t17 v17 w17 => ?_) (fun e he s17 F17 b17 => ?_)
    · intro s18 e18 s19 e19
      have f18 : sI s18 114 0 = -1 := by subst e18; rw [sI_w, if_neg (by omega)]; exact w17
      rw [f18] at e19
      have n19 : ∀ a i, ¬ (a = 0 ∧ (i = 4 ∨ i = 5)) → sI s19 a i = sI s17 a i := fun a i h => by subst e19; rw [sI_w, if_neg (by omega)]; subst e18; rw [sI_w, if_neg (by omega)]
      have J19 : ∀ a i, sJ s19 a i = sJ s17 a i := fun a i => by subst e19; subst e18; rfl
      have R19 : ∀ a i, sR s19 a i = sR s17 a i := fun a i => by subst e19; subst e18; rfl
      have f19 : sI s19 0 4 = 0 := by subst e19; rw [sI_w, if_neg (by omega)]; subst e18; rw [sI_w, if_pos ⟨rfl, rfl⟩]
      clear e19 e18
      apply hP67
      refine ⟨fun _ => ?_, fun hz => absurd f19 hz⟩
      have Rr : ∀ a i, ¬ (a = 113 ∧ (i = 2 ∨ i = 6)) → ¬ (a = 114 ∧ i = 2) → sR s19 a i = sR s a i := fun a i h1 h2 => by rw [R19, F17.2.2 a i h2, R5, F3.2.2 a i h1]
      intro s7 e7
      refine ⟨g2, by subst e7; exact (Rr 0 8 (by omega) (by omega)).trans hcu, hg2.kd, g, by subst e7; exact (Rr 0 10 (by omega) (by omega)).trans hsp, hg.kd, ?_⟩
      intro s10 e10 s11 e11 s12 e12 s13 e13
      unfold W_X2_forget
      refine ⟨nI_inU (a := 0) (by omega) (by omega), ?_⟩
      intro s14 e14
      have nn : ∀ a i, ¬ (a = 0 ∧ (i = 5 ∨ i = 11 ∨ i = 12)) → ¬ (a = 124 ∧ i = 0) → sI s14 a i = sI s19 a i := fun a i h1 h2 => by
        subst e14; rw [sI_w, if_neg (by rw [show ix 0 = 0 from rfl]; omega)]; subst e13; rw [sI_w, if_neg (by omega)]; subst e12; rw [sI_w, if_neg (by omega)]; subst e11; subst e10; subst e7; show sI (wI s19 0 5 (-1)) a i = _; exact sI_w.trans (if_neg (by omega))
      have JJ : ∀ a i, sJ s14 a i = sJ s19 a i := fun a i => by subst e14; subst e13; subst e12; subst e11; subst e10; subst e7; rfl
      have Ra : ∀ a i, ¬ (a = 0 ∧ (i = 8 ∨ i = 10)) → sR s14 a i = sR s19 a i := fun a i h => by
        subst e14; subst e13; subst e12; subst e11; subst e10; subst e7
        show sR (wR (wR (wI s19 0 5 (-1)) 0 8 (g + 1)) 0 10 (g2 + 1)) a i = _
        rw [sR_w, if_neg (by omega), sR_w, if_neg (by omega)]; rfl
      have fr : ∀ a i, ¬ dLd g a i → sI s19 a i = sI s a i := fun a i h => by
        unfold dLd at h
        rw [n19 a i (by omega), F17.1 a i (fun hh => h (Or.inr (Or.inl hh))), n5 a i (by omega), F3.1 a i (fun hh => h (Or.inl hh))]
      refine Hok l (ldP_ok hl hv) hlo s14 (fun a i h1 h2 h3 => ?_) (fun a i h1 => ?_) (fun a i h1 h2 h3 => ?_) ?_ ?_ ?_ ?_ ?_ ?_ ?_ ?_ ?_ ?_
      · have h1' := h1
        unfold dLd at h1'
        rw [nn a i (by omega) h3]; exact fr a i h1
      · unfold dLd at h1
        rw [JJ, J19, F17.2.1 a i (fun hh => h1 (Or.inr (Or.inl hh))), J5, F3.2.1 a i (fun hh => h1 (Or.inl hh))]
      · rw [Ra a i h3]; exact Rr a i h1 h2
      · subst e14; subst e13; subst e12; subst e11; subst e10
        show sR (wR (wR s7 0 8 (g + 1)) 0 10 (g2 + 1)) 0 8 = _
        rw [sR_w, if_neg (by omega), sR_w, if_pos ⟨rfl, rfl⟩]
      · subst e14; subst e13; subst e12; subst e11; subst e10
        show sR (wR (wR s7 0 8 (g + 1)) 0 10 (g2 + 1)) 0 10 = _
        rw [sR_w, if_pos ⟨rfl, rfl⟩]
      · exact (p5.fr (s' := s14) (fun a i ha => by rw [nn a i (by omega) (by omega), n19 a i (by omega), F17.1 a i (by unfold dVy; omega)]))
      · intro f hf i hi
        rw [nn _ _ (by omega) (by omega), n19 _ _ (by omega), nn _ _ (by omega) (by omega), n19 _ _ (by omega)]
        exact t17 f hf i hi
      · rw [nn _ _ (by omega) (by omega), n19 _ _ (by omega), F17.1 _ _ (by unfold dVy; omega)]; exact g13
      · rw [nn _ _ (by omega) (by omega)]; exact f19
      · subst e14; rw [sI_w, if_neg (by omega)]; subst e13; rw [sI_w, if_neg (by omega)]; subst e12; rw [sI_w, if_neg (by omega)]; subst e11; subst e10; subst e7; show sI (wI s19 0 5 (-1)) 0 5 = -1; exact sI_w.trans (if_pos ⟨rfl, rfl⟩)
      · subst e14; rw [sI_w, if_neg (by omega)]; subst e13; rw [sI_w, if_neg (by omega)]; subst e12; rw [sI_w, if_pos ⟨rfl, rfl⟩]
      · subst e14; rw [sI_w, if_neg (by omega)]; subst e13; rw [sI_w, if_pos ⟨rfl, rfl⟩]
      · subst e14; rw [sI_w, if_pos ⟨rfl, rfl⟩]
    · have h58 := vAll_58 he
      intro s18 e18 s19 e19
      have f18 : sI s18 114 0 = nI e.2 := by subst e18; rw [sI_w, if_neg (by omega)]; exact b17.2
      rw [f18] at e19
      have n19 : ∀ a i, ¬ (a = 0 ∧ (i = 4 ∨ i = 5)) → sI s19 a i = sI s17 a i := fun a i h => by subst e19; rw [sI_w, if_neg (by omega)]; subst e18; rw [sI_w, if_neg (by omega)]
      have f19 : sI s19 0 4 = nI e.1 := by subst e19; rw [sI_w, if_neg (by omega)]; subst e18; rw [sI_w, if_pos ⟨rfl, rfl⟩]
      apply hP67
      rw [f19]
      refine ⟨fun hz => absurd hz (by rw [nI_0U, nI_inj (by omega) (by omega)]; omega), fun _ => ?_⟩
      refine Herr e (ldP_ve hl he) (by omega) h58.2 s19 ⟨fun a i h => ?_, fun a i h => ?_, fun a i h1 h2 => ?_⟩ f19 (by subst e19; rw [sI_w, if_pos ⟨rfl, rfl⟩])
      · unfold dLd at h
        rw [n19 a i (by omega), F17.1 a i (fun hh => h (Or.inr (Or.inl hh))), n5 a i (by omega), F3.1 a i (fun hh => h (Or.inl hh))]
      · unfold dLd at h
        subst e19; subst e18
        show sJ s17 a i = _
        rw [F17.2.1 a i (fun hh => h (Or.inr (Or.inl hh))), J5, F3.2.1 a i (fun hh => h (Or.inl hh))]
      · subst e19; subst e18
        show sR s17 a i = _
        rw [F17.2.2 a i h2, R5, F3.2.2 a i h1]
  · intro s4 e4 s5 e5
    have f4 : sI s4 113 0 = nI e.2 := by subst e4; rw [sI_w, if_neg (by omega)]; exact fp3
    rw [f4] at e5
    have f5 : sI s5 0 4 = nI e.1 := by subst e5; rw [sI_w, if_neg (by omega)]; subst e4; rw [sI_w, if_pos ⟨rfl, rfl⟩]
    have hnz : ¬ sI s5 0 4 = 0 := by rw [f5, nI_0U, nI_inj (by omega) (by omega)]; omega
    intro P67 hP67
    refine ⟨fun _ => ?_, fun hz => absurd hz hnz⟩
    apply hP67
    refine ⟨fun hz => absurd hz hnz, fun _ => ?_⟩
    rw [f5]
    refine Herr e (ldP_er he) h1 h8 s5 ⟨fun a i h => ?_, fun a i h => ?_, fun a i h1 h2 => ?_⟩ f5 (by subst e5; rw [sI_w, if_pos ⟨rfl, rfl⟩])
    · unfold dLd at h
      subst e5; rw [sI_w, if_neg (by omega)]; subst e4; rw [sI_w, if_neg (by omega), F3.1 a i (fun hh => h (Or.inl hh))]
    · unfold dLd at h
      subst e5; subst e4
      exact F3.2.1 a i (fun hh => h (Or.inl hh))
    · subst e5; subst e4
      exact F3.2.2 a i h1
/-! the reference -/
def dLg (a i : Nat) : Prop := dRp a i ∨ (a = 139 ∧ (i = 0 ∨ i = 6 ∨ i = 7 ∨ i = 114 ∨ i = 115)) ∨ a = 195 ∨ ((a = 193 ∨ a = 194) ∧ 9600 ≤ i)
def dLf (a i : Nat) : Prop := dLg a i ∨ dCp 0 a i ∨ (a = 139 ∧ i = 89) ∨ (a = 200 ∧ i = 0) ∨ (a = 177 ∧ i = 1)
theorem k_loadProgram {Q : Int32 → yS → Prop} (hy : byM s B nb)
    (Hok : ∀ l, ldP B nb = .ok l → pgOK l → ∀ s', frM dLf s s' → pgM s' 0 l → tpM s' 0 l → (sI s' 177) 0 = 1 → (sI s' 177) 1 = 0 → (sI s' 200) 0 = 0 → (sI s' 139 89) = 0 → (sI s' 139 6) = 0 → (sI s' 139 7) = -1 → Q 0 s')
    (Herr : ∀ e, ldP B nb = .error e → 1 ≤ e.1 → e.1 ≤ 8 → ∀ s', frM dLg s s' → (sI s' 139 6) = nI e.1 → (sI s' 139 7) = nI e.2 → Q (nI e.1) s') : W_X12_loadProgram s Q := by
  unfold W_X12_loadProgram
  intro s1 e1
  have F1 : frM dLg s s1 := by subst e1; exact frM.rfl'.wI (by unfold dLg; omega)
  have y1 : byM s1 B nb := by
    subst e1
    exact ⟨hy.1, (sI_w.trans (if_neg (by omega))).trans hy.2.1, fun k hk => (sI_w.trans (if_neg (by omega))).trans (hy.2.2.1 k hk), hy.2.2.2⟩
  have rp : ∀ {u t : yS}, frM dRp u t → frM dLg u t := fun h => h.mono (fun a i h => Or.inl h)
  have ef : ∀ {u t : yS}, frM dLg u t → frM dLf u t := fun h => h.mono (fun a i h => Or.inl h)
  -- a fault
  have bad : ∀ (e : Nat × Nat) (x3 : Int32) (s4 : yS), ldP B nb = .error e → frM dLg s s4 → rbM s4 e → ∀ P11 : Int32 → yS → Prop, (∀ (x3 : Int32) (s4 : yS), (∀ P40 : Prop, ((∀ s5 : yS, s5 = wI s4 139 6 (sI s4 139 15) → 
   ∀ s6 : yS, s6 = wI s5 139 7 (sI s5 139 16) → 
   (((sI s6 139 6) ≤ 0 → W_X12_copyProgram s6 (nI 2) 0 
    (fun s7 => vp_in 0 2 ∧ ∀ s9 : yS, s9 = wI s7 200 (ix 0) (vp_nar .boolean 0) → 
    vp_in 1 3 ∧ ∀ s11 : yS, s11 = wI s9 177 (ix 1) (vp_nar .boolean 0) → 
    ∀ s12 : yS, s12 = wI s11 139 89 0 → 
    Q 0 s12))
   ∧ (¬ (sI s6 139 6) ≤ 0 → Q (sI s6 139 6) s6))) → P40) → 
  ((¬ (sI s4 139 15) = 0 → P40)
  ∧ ((sI s4 139 15) = 0 → vp_in (nI 2) 3 ∧ 
   (((sI s4 178 (ix (nI 2))) ≤ x3 → P40)
   ∧ (¬ (sI s4 178 (ix (nI 2))) ≤ x3 → W_X12_verify s4 (nI 2) x3 
    (fun s14 => ∀ x15 : Int32, x15 = (x3 + 1) → 
    P11 x15 s14)))))) → P11 x3 s4) → P11 x3 s4 := by
    intro e x3 s4 he F4 b4 P11 hP11
    have hb1 := b4.2.2.1
    have hb8 := b4.2.2.2
    apply hP11
    intro P40 hP40
    refine ⟨fun _ => ?_, fun hz => absurd hz (by rw [b4.1, nI_0U, nI_inj (by omega) (by omega)]; omega)⟩
    apply hP40
    intro s5 e5 s6 e6
    have p5 : sI s5 139 16 = nI e.2 := by subst e5; rw [sI_w, if_neg (by omega)]; exact b4.2.1
    rw [p5] at e6
    rw [b4.1] at e5
    have f6 : sI s6 139 6 = nI e.1 := by subst e6; rw [sI_w, if_neg (by omega)]; subst e5; rw [sI_w, if_pos ⟨rfl, rfl⟩]
    rw [f6]
    refine ⟨fun hz => absurd hz (by rw [nI_0U, nI_leU (by omega) (by omega)]; omega), fun _ => ?_⟩
    exact Herr e he hb1 hb8 s6 (by subst e6; subst e5; exact (F4.wI (by unfold dLg; omega)).wI (by unfold dLg; omega)) f6 (by subst e6; rw [sI_w, if_pos ⟨rfl, rfl⟩])
  refine k_readProgram y1 (fun l hl hlo s2 F2 b2 w2 p2 => ?_) (fun e he s2 F2 b2 => fun P11 hP11 => bad e 0 s2 (ldP_er he) (F1.trans (rp F2)) b2 P11 hP11)
  intro P11 hP11
  obtain ⟨ok1, ok2, ok3, ok4⟩ := id hlo
  have F2' := F1.trans (rp F2)
  suffices hL : ∀ (r k : Nat) (s4 : yS), k + r = l.length → frM dLg s s4 → (sI s4 139 15) = 0 → (sI s4 139 16) = -1 → pgM s4 2 l → (∀ j, j < k → vAt l j = none) → (∀ f, f < k → ∀ i, i < 400 → (sI s4 193) (4800 * 2 + 400 * f + i) = dI (vTy l f i) ∧ (sI s4 194) (4800 * 2 + 400 * f + i) = tI (vTy l f i)) → P11 (nI k) s4 from
    hL l.length 0 s2 (by omega) F2' b2 w2 p2 (fun j hj => by omega) (fun f hf => by omega)
  intro r
  induction r with
  | zero =>
    intro k s4 hk F4 b4 w4 p4 n4 t4
    apply hP11
    intro P40 hP40
    rw [b4, nI_ix (n := 2) (by omega), p4.1, nI_leU (by omega) (by omega)]
    refine ⟨fun hz => absurd rfl hz, fun _ => ⟨nI_inU (a := 2) (by omega) (by omega), fun _ => ?_, fun hz => absurd (by omega) hz⟩⟩
    apply hP40
    rw [b4]
    intro s5 e5 s6 e6
    have p5 : sI s5 139 16 = -1 := by subst e5; rw [sI_w, if_neg (by omega)]; exact w4
    rw [p5] at e6
    have f6 : sI s6 139 6 = 0 := by subst e6; rw [sI_w, if_neg (by omega)]; subst e5; rw [sI_w, if_pos ⟨rfl, rfl⟩]
    have pl6 : sI s6 139 7 = -1 := by subst e6; rw [sI_w, if_pos ⟨rfl, rfl⟩]
    have F46 : frM (fun a i => a = 139 ∧ (i = 6 ∨ i = 7)) s4 s6 := by subst e6; subst e5; exact (frM.rfl'.wI (by omega)).wI (by omega)
    have F6 : frM dLg s s6 := F4.trans (F46.mono (fun a i h => by unfold dLg; omega))
    rw [f6]
    refine ⟨fun _ => ?_, fun hz => absurd (by decide) hz⟩
    have p6 : pgM s6 2 l := p4.fr (fun a i ha => F46.1 a i (by omega))
    have t6 : tpM s6 2 l := fun f hf i hi => by
      rw [F46.1 _ _ (by omega), F46.1 _ _ (by omega)]; exact t4 f (by omega) i hi
    refine k_copyProgram (p := 0) (q := 2) (by omega) (by omega) (by omega) (fun s7 F7 h7 f7 d7 c7 a7 => ?_)
    refine ⟨nI_inU (a := 0) (by omega) (by omega), ?_⟩
    intro s9 e9
    refine ⟨nI_inU (a := 1) (by omega) (by omega), ?_⟩
    intro s11 e11 s12 e12
    have n12 : ∀ a i, ¬ (a = 200 ∧ i = 0) → ¬ (a = 177 ∧ i = 1) → ¬ (a = 139 ∧ i = 89) → sI s12 a i = sI s7 a i := fun a i h1 h2 h3 => by
      subst e12; rw [sI_w, if_neg (by omega)]; subst e11; rw [sI_w, if_neg (by rw [show ix 1 = 1 from rfl]; omega)]; subst e9; rw [sI_w, if_neg (by rw [show ix 0 = 0 from rfl]; omega)]
    have p7 : pgM s7 0 l := p6.copy hlo f7 d7 c7 a7
    have t7 : tpM s7 0 l := t6.copy hlo c7
    refine Hok l (ldP_ok hl (vAll_none (fun j hj => n4 j (by omega)))) hlo s12 ?_ ?_ ?_ ?_ ?_ ?_ ?_ ?_ ?_
    · have F7' : frM dLf s s7 := (ef F6).trans (F7.mono (fun a i h => Or.inr (Or.inl h)))
      subst e12; subst e11; subst e9
      exact ((F7'.wI (by unfold dLf; rw [show ix 0 = 0 from rfl]; omega)).wI (by unfold dLf; rw [show ix 1 = 1 from rfl]; omega)).wI (by unfold dLf; omega)
    · exact p7.fr (fun a i ha => n12 a i (by omega) (by omega) (by omega))
    · intro f hf i hi
      rw [n12 _ _ (by omega) (by omega) (by omega), n12 _ _ (by omega) (by omega) (by omega)]; exact t7 f hf i hi
    · rw [n12 _ _ (by omega) (by omega) (by omega)]; exact h7
    · subst e12; rw [sI_w, if_neg (by omega)]; subst e11; rw [sI_w, if_pos ⟨rfl, rfl⟩]; rfl
    · subst e12; rw [sI_w, if_neg (by omega)]; subst e11; rw [sI_w, if_neg (by omega)]; subst e9; rw [sI_w, if_pos ⟨rfl, rfl⟩]; rfl
    · subst e12; rw [sI_w, if_pos ⟨rfl, rfl⟩]
    · rw [n12 _ _ (by omega) (by omega) (by omega), F7.1 _ _ (by unfold dCp; omega)]; exact f6
    · rw [n12 _ _ (by omega) (by omega) (by omega), F7.1 _ _ (by unfold dCp; omega)]; exact pl6
  | succ r ih =>
    intro k s4 hk F4 b4 w4 p4 n4 t4
    have hkl : k < l.length := by omega
    apply hP11
    intro P40 hP40
    rw [b4, nI_ix (n := 2) (by omega), p4.1, nI_leU (by omega) (by omega)]
    refine ⟨fun hz => absurd rfl hz, fun _ => ⟨nI_inU (a := 2) (by omega) (by omega), fun hz => absurd hz (by omega), fun _ => ?_⟩⟩
    have mn : ∀ {u t : yS}, frM (dVn 2 k 400) u t → frM dLg u t := fun h => h.mono (fun a i h => by
      rcases h with h | h | h | h
      · exact Or.inl (Or.inl (by unfold dNb; omega))
      · exact Or.inr (Or.inl (by omega))
      · exact Or.inr (Or.inr (Or.inl h))
      · exact Or.inr (Or.inr (Or.inr (by omega))))
    refine k_verify (by omega) p4 hlo hkl b4 (fun V hV s14 F14 v14 => ?_) (fun e he s14 F14 b14 => ?_)
    · intro x15 e15; subst e15; rw [nI_s]
      have hv := vTy_of hkl hV
      refine ih (k + 1) s14 (by omega) (F4.trans (mn (cm_mn F14))) ?_ ?_ ?_ (fun j hj => ?_) (fun f hf i hi => ?_)
      · rw [F14.1 _ _ (by unfold dVm dVc; omega)]; exact b4
      · rw [F14.1 _ _ (by unfold dVm dVc; omega)]; exact w4
      · exact p4.fr (fun a i ha => F14.1 a i (by unfold dVm dVc; omega))
      · by_cases c : j = k
        · subst c; exact hv.2
        · exact n4 j (by omega)
      · by_cases c : f = k
        · subst c; rw [hv.1]; exact v14 i hi
        · rw [F14.1 _ _ (by unfold dVm dVc; omega), F14.1 _ _ (by unfold dVm dVc; omega)]
          exact t4 f (by omega) i hi
    · intro x15 e15
      exact bad e x15 s14 (ldP_ve hl (vAll_err hkl n4 (vAt_err hkl he))) (F4.trans (mn F14)) b14 P11 hP11
end

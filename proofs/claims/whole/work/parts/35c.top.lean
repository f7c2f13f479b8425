section
variable {T : Nat → Nat} {n : Nat}
theorem mem_lkOf {ps : PS} {l : Lk} (h : l ∈ lkOf ps) : (∃ r ∈ pR ps, ∃ g, rF r ≤ g ∧ g < rF r + rM r ∧ l = lkG (pG ps) (rC r) g) ∨ (∃ (i : Nat) (hi : i < (pW ps).length), (∃ g, wF (pW ps)[i] ≤ g ∧ g < wF (pW ps)[i] + wM (pW ps)[i] ∧ l = lkG (pG ps) (wCl (pW ps)[i]) g) ∨ l = (1, i, 0, wP (pW ps)[i])) := by
  unfold lkOf at h
  rw [List.mem_append] at h
  rcases h with h | h
  · left
    rw [List.mem_flatMap] at h
    obtain ⟨r, hr, hl⟩ := h
    unfold lkR at hl
    rw [List.mem_map] at hl
    obtain ⟨g, hg, e⟩ := hl
    rw [List.mem_range'_1] at hg
    exact ⟨r, hr, g, by omega, by omega, e.symm⟩
  · right
    rw [List.mem_flatten] at h
    obtain ⟨x, hx, hl⟩ := h
    obtain ⟨i, hi, e⟩ := List.mem_mapIdx.mp hx
    subst e
    unfold lkW at hl
    rw [List.mem_append, List.mem_map, List.mem_singleton] at hl
    refine ⟨i, hi, ?_⟩
    rcases hl with ⟨g, hg, e⟩ | hl
    · left
      rw [List.mem_range'_1] at hg
      exact ⟨g, by omega, by omega, e.symm⟩
    · right; exact hl
theorem qL_R {ps : PS} {r : Rl} (h : r ∈ pR ps) : (rC r, rF r, rM r) ∈ qL ps := by
  unfold qL; rw [List.mem_append]; left; exact List.mem_map.mpr ⟨r, h, rfl⟩
theorem qL_W {ps : PS} {w : Wy} (h : w ∈ pW ps) : (wCl w, wF w, wM w) ∈ qL ps := by
  unfold qL; rw [List.mem_append]; right; exact List.mem_map.mpr ⟨w, h, rfl⟩
theorem wfI_rng {ps : PS} (h : wfI ps) : (∀ r ∈ pR ps, rF r + rM r ≤ (pG ps).length) ∧ (∀ w ∈ pW ps, wF w + wM w ≤ (pG ps).length) := by
  have hc := (chn_le _ _ _ h.2.2.2.2.2.2.2.1).2
  exact ⟨fun r hr => (hc _ (qL_R hr)).2, fun w hw => (hc _ (qL_W hw)).2⟩
theorem chn_sum : ∀ (l : List (Int × Nat × Nat)) (a b : Nat), chn l a b → (∀ q ∈ l, q.2.2 ≤ 4) → b ≤ a + 4 * l.length
  | [], a, b, h, _ => by
    have h : a = b := h
    simp; omega
  | p :: l, a, b, h, hq => by
    have := chn_sum l _ b h.2 (fun q hq' => hq q (by simp [hq']))
    have h4 := hq p (by simp)
    rw [List.length_cons]; omega
theorem wfI_wfP {ps : PS} (h : wfI ps) : wfP ps := by
  have hr := wfI_rng h
  obtain ⟨h1, h2, h3, h4, h5, h6, h7, h8, h9, h10, h11⟩ := h
  refine ⟨?_, fun r hr' => ⟨(h6 r hr').2.2.2, hr.1 r hr'⟩, fun w hw => ⟨(h7 w hw).2.2.2.1, hr.2 w hw⟩, fun c hc => (h3 c hc).1, h4⟩
  have := chn_sum _ _ _ h8 (fun q hq => by
    unfold qL at hq
    rw [List.mem_append, List.mem_map, List.mem_map] at hq
    rcases hq with ⟨r, hr, e⟩ | ⟨w, hw, e⟩
    · subst e; exact (h6 r hr).2.2.2
    · subst e; exact (h7 w hw).2.2.2.1)
  unfold qL at this
  rw [List.length_append, List.length_map, List.length_map] at this
  omega
theorem wfI_rsOK {ps : PS} (h : wfI ps) (hl : lenP ps) : rsOK ps := by
  have hp := wfI_wfP h
  have hr := wfI_rng h
  have hlk := lkOf_len hp
  obtain ⟨h1, h2, h3, h4, h5, h6, h7, h8, h9, h10, h11⟩ := h
  obtain ⟨l1, l2, l3, l4⟩ := hl
  have lG := hp.1
  refine ⟨h1, h2, fun c hc => (h3 c hc).1, h4, h5, fun w hw => (h7 w hw).2.2.2.2, l1, l3, by omega, by omega, by omega, fun l hl => ?_⟩
  have hG : ∀ (c : Int) (g : Nat), g < (pG ps).length → -1 ≤ c → c ≤ 15 → lkOK ps (lkG (pG ps) c g) := by
    intro c g hg hc1 hc2
    unfold lkG lkOK
    dsimp only
    show _ ∨ _
    have e : (false, 0, [], 0, 0, 0, false) = gdD := rfl
    rw [e]
    cases hgc : gC ((pG ps).getD g gdD)
    · right; right; exact ⟨rfl, hg, rfl, hc1, hc2⟩
    · left; exact ⟨rfl, hg, rfl⟩
  rcases mem_lkOf hl with ⟨r, hr', g, hg1, hg2, e⟩ | ⟨i, hi, ⟨g, hg1, hg2, e⟩ | e⟩
  · rw [e]; have := hr.1 r hr'; have h6 := h6 r hr'; exact hG _ _ (by omega) h6.2.1 h6.2.2.1
  · rw [e]; have := hr.2 _ (List.getElem_mem hi); have h7 := h7 _ (List.getElem_mem hi); exact hG _ _ (by omega) h7.2.1 h7.2.2.1
  · rw [e]; right; left; exact ⟨rfl, hi⟩
theorem k_resolveE {s : yS} {e : Nat × Nat} {Q : yS → Prop} (hc : erM s n e) (H : Q s) : W_X12_resolve s Q := by
  unfold W_X12_resolve
  intro P2 hP2
  exact hP2 _ _ ⟨fun _ => H, fun _ => ⟨fun _ => H, fun hh => absurd hh hc.ne⟩⟩
theorem k_wrongE {s : yS} {e : Nat × Nat} {w p : Int32} {Q : yS → Prop} (hc : erM s n e) (H : Q s) : W_X12_wrong s w p Q := k_wrong (fun _ => H) (fun hh => absurd hh hc.ne)
/-- the whole reading -/
def pAll (T : Nat → Nat) (n : Nat) : PE PS := match pTop (tkJ T n) 8193 n 32 ps0 0 with
  | .error e => .error e
  | .ok ps => match pRes ps with
    | some e => .error e
    | none => .ok ps
/-- the reference's policy, read and looked up -/
def poM (s : yS) (ps : PS) : Prop := csM s (pC ps) ∧ rsM s (pR ps) ∧ nsM s (pN ps) ∧ wsM s (pW ps) ∧ (sI s 139 41) = nI (pG ps).length
  ∧ (∀ (g : Nat) (h : g < (pG ps).length), (sI s 158) g = bI (gC (pG ps)[g]) ∧ (sI s 161) g = nI (gH (pG ps)[g]) ∧ (sI s 162) g = Int32.ofInt (gV (pG ps)[g]) ∧ (sI s 163) g = bI (gO (pG ps)[g]) ∧ (gC (pG ps)[g] = false → (sI s 159) g = nI (gW (pG ps)[g])))
  ∧ ∀ l ∈ lkOf ps, lkD s ps l
theorem k_readPolicy {s : yS} {Q : yS → Prop} (h : txM s T n)
    (Hok : ∀ ps, pAll T n = .ok ps → wfI ps → lenP ps → pN ps ≠ [] → ∀ s', frM dP s s' → (sI s' 139 15) = 0 → (sI s' 139 16) = -1 → poM s' ps → Q s')
    (Herr : ∀ e, pAll T n = .error e → 1 ≤ e.1 → e.1 ≤ 8 → ∀ s', frM dP s s' → (sI s' 139 15) = nI e.1 → (sI s' 139 16) = nI e.2 → Q s') : W_X12_readPolicy s Q := by
  have hn := h.1
  unfold W_X12_readPolicy
  rw [wd339, wd349]
  intro s1 e1 s2 e2 s3 e3 s4 e4 s5 e5 s6 e6 s7 e7 s8 e8 s9 e9
  have F9 : frM dP s s9 := by
    subst e9; subst e8; subst e7; subst e6; subst e5; subst e4; subst e3; subst e2; subst e1
    exact ((((((((frM.rfl'.wI (by unfold dP; omega)).wI (by unfold dP; omega)).wI (by unfold dP; omega)).wI (by unfold dP; omega)).wI (by unfold dP; omega)).wI (by unfold dP; omega)).wI (by unfold dP; omega)).wI (by unfold dP; omega)).wI (by unfold dP; omega)
  have p9 : psM s9 ps0 := by
    subst e9; subst e8; subst e7; subst e6; subst e5; subst e4; subst e3; subst e2; subst e1
    refine ⟨⟨?_, fun k hk => absurd hk (by simp [ps0, pC])⟩, ⟨?_, fun k hk => absurd hk (by simp [ps0, pR])⟩, ⟨?_, fun k hk => absurd hk (by simp [ps0, pN])⟩, ⟨?_, fun k hk => absurd hk (by simp [ps0, pW])⟩, ⟨?_, fun k hk => absurd hk (by simp [ps0, pG])⟩, ⟨?_, fun k hk => absurd hk (by simp [ps0, lkOf, pR, pW])⟩⟩ <;> (simp only [sI_w]; rfl)
  have a9 : (sI s9 139 10) = 0 ∧ (sI s9 139 15) = 0 ∧ (sI s9 139 16) = -1 := by
    subst e9; subst e8; subst e7; subst e6; subst e5; subst e4; subst e3; subst e2; subst e1
    refine ⟨?_, ?_, ?_⟩ <;> simp [sI_w]
  clear e9 e8 e7 e6 e5 e4 e3 e2 e1
  intro P49 hP49
  refine k_next0 (h.pf F9) a9.1 a9.2.1 a9.2.2 (fun s26 F26 c26 => ?_)
  -- a fault
  have hErr : ∀ (e : Nat × Nat) (s' : yS), pTop (tkJ T n) 8193 n 32 ps0 0 = .error e → frM dP s s' → erM s' n e → Q s' := by
    intro e s' he F' e'
    exact Herr e (by unfold pAll; rw [he]) e'.2.1 e'.2.2.1 s' F' e'.1 e'.2.2.2.1
  -- the end in a fault
  have hExit : ∀ (e : Nat × Nat) (s' : yS), pTop (tkJ T n) 8193 n 32 ps0 0 = .error e → frM dP s s' → erM s' n e → ∀ P176 : yS → Prop, (∀ (s14 : yS), (W_X12_resolve s14 (fun s15 => Q s15)) → P176 s14) → 
    ((¬ (sI s' 139 27) = 0 → P176 s')
    ∧ ((sI s' 139 27) = 0 → W_X12_wrong s' (nI 4) (sI s' 139 9) (fun s16 => P176 s16))) := by
    intro e s' he F' e' P176 hP176
    have hP := hP176 s' (k_resolveE e' (hErr e s' he F' e'))
    exact ⟨fun _ => hP, fun _ => k_wrongE e' hP⟩
  have hE : ∀ (s10 : yS) (e : Nat × Nat), pTop (tkJ T n) 8193 n 32 ps0 0 = .error e → frM dP s s10 → erM s10 n e → P49 s10 := by
    intro s10 e he F10 e10
    apply hP49
    intro P142 hP142
    have hP : P142 := by
      apply hP142
      intro P156 hP156
      have hQ : ∀ y, P156 y := fun y => hP156 y (k_mustE e10 (hExit e s10 he F10 e10))
      exact ⟨fun _ => hQ _, fun _ => hQ _⟩
    exact ⟨fun _ => hP, fun hh => absurd hh e10.ne⟩
  generalize hR : pTop (tkJ T n) 8193 n 32 ps0 0 = R at hE hExit hErr
  have hRok : ∀ ps, R = .ok ps → wfI ps ∧ lenP ps ∧ pN ps ≠ [] := fun ps he => pTop_wf (F := 8193) (N := n) (f := 32) (j := 0) (by rw [hR, he])
  suffices hL : ∀ (f j : Nat) (ps : PS) (s10 : yS), f + (pC ps).length + (pN ps).length = 32 → okJ T n j → frM dP s s10 → cuM s10 T n j → psM s10 ps → wfP ps → lenP ps → (pN ps = [] → pW ps = []) → R = pTop (tkJ T n) 8193 n f ps j → P49 s10 from
    hL 32 0 ps0 s26 rfl (fun i hi => by omega) (F9.trans (F26.fr dP_nx)) c26 (p9.nx F26) (wfI_wfP wfI_0) lenP_0 (fun _ => rfl) hR.symm
  intro f
  induction f with
  | zero => intro j ps s10 hf _ _ _ _ _ hl; unfold lenP at hl; omega
  | succ f ih =>
    intro j ps s10 hf oj F10 c10 p10 w10 l10 hNW hRe
    have tx10 := h.pf F10
    have n10 : (sI s10 139 27) = nI (pN ps).length := p10.2.2.1.1
    rw [pTop] at hRe
    by_cases k1 : tkK (tkJ T n j) = 1
    · rw [if_neg (by omega), if_neg (by omega)] at hRe
      exact hE s10 _ hRe F10 (c10.bad k1)
    have hb := c10.2.2.2.1 k1
    apply hP49
    intro P142 hP142
    -- what begins nothing
    have other : tkK (tkJ T n j) ≠ 2 → P142 := by
      intro h2
      apply hP142
      intro P156 hP156
      by_cases k0 : tkK (tkJ T n j) = 0
      · rw [if_pos k0] at hRe
        refine ⟨fun hh => absurd ((c10.t4 k1).mpr k0) hh, fun _ => hP156 _ ?_⟩
        refine k_mustJ tx10 c10 (fun _ _ => ?_) (fun hh => hh.elim (fun hh => absurd hh (by decide)) (fun hh => absurd hh k1))
        intro P176 hP176
        rw [n10]
        have nz : nI (pN ps).length = 0 ↔ pN ps = [] := by
          rw [nI_0U, nI_inj (by have := l10.2.2.1; omega) (by omega)]
          constructor
          · intro hh; exact List.length_eq_zero_iff.mp hh
          · intro hh; rw [hh]; rfl
        rw [nz]
        refine ⟨fun hne => hP176 s10 ?_, fun he => ?_⟩
        · rw [if_neg hne] at hRe
          obtain ⟨wf, ln, _⟩ := hRok ps hRe
          refine k_resolve p10 (wfI_rsOK wf ln) hb.1 (fun hres s' F' hW' hD' => ?_) (fun e he s' F' b' w' h5 h6 => ?_)
          · refine Hok ps (by unfold pAll; rw [hR, hRe]; dsimp only; rw [hres]) wf ln hne s' (F10.trans (F'.mono (fun a i hd => by unfold dR at hd; unfold dP; omega))) ((F'.1 _ _ (by unfold dR; omega)).trans hb.1) ((F'.1 _ _ (by unfold dR; omega)).trans hb.2) ?_
            obtain ⟨q1, q2, q3, q4, q5, q6⟩ := p10
            have fI : ∀ a i, a ≠ 157 → a ≠ 159 → sI s' a i = sI s10 a i := fun a i h1 h2 => F'.1 _ _ (by unfold dR; omega)
            have fJ : ∀ a i, a ≠ 157 → a ≠ 159 → sJ s' a i = sJ s10 a i := fun a i h1 h2 => F'.2.1 _ _ (by unfold dR; omega)
            refine ⟨q1.fr (fI _ _ (by omega) (by omega)) (fun i _ => fI _ _ (by omega) (by omega)) (fun i _ => fJ _ _ (by omega) (by omega)), q2.fr (fI _ _ (by omega) (by omega)) (fun a i _ _ _ => fI _ _ (by omega) (by omega)), q3.fr (fI _ _ (by omega) (by omega)) (fun i _ => fJ _ _ (by omega) (by omega)), q4.fr (fI _ _ (by omega) (by omega)) (fun a i _ _ _ => fI _ _ (by omega) (by omega)) (fun i _ => fJ _ _ (by omega) (by omega)), (fI _ _ (by omega) (by omega)).trans q5.1, fun g hg => ?_, hD'⟩
            have := q5.2 g hg
            unfold gd1 at this
            rw [fI 158 g (by omega) (by omega), fI 161 g (by omega) (by omega), fI 162 g (by omega) (by omega), fI 163 g (by omega) (by omega)]
            refine ⟨this.1, this.2.2.1, this.2.2.2.1, this.2.2.2.2.1, fun hc => ?_⟩
            rw [hW' g hg (by rw [getD_at hg]; exact hc)]; exact this.2.1
          · refine Herr e (by unfold pAll; rw [hR, hRe]; dsimp only; rw [he]) (by omega) (by omega) s' (F10.trans (F'.mono (fun a i hd => by unfold dRe at hd; unfold dP; omega))) b' w'
        · rw [if_pos he] at hRe
          rw [tx10.2.1]
          refine k_wrong (fun hh => absurd hb.1 hh) (fun _ => hP176 _ ?_)
          have e4 : erM (wI (wI s10 139 15 (nI 4)) 139 16 (nI n)) n (4, n) := by
            refine ⟨?_, by show 1 ≤ 4; omega, by show 4 ≤ 8; omega, ?_, ⟨_, (tkJ_cases T n j).2.2.1, ?_⟩⟩
            · rw [sI_w, if_neg (by omega), sI_w, if_pos ⟨rfl, rfl⟩]
            · rw [sI_w, if_pos ⟨rfl, rfl⟩]
            · rw [sI_w, if_neg (by omega), sI_w, if_neg (by omega)]; exact c10.1
          exact k_resolveE e4 (hErr _ _ hRe ((F10.wI (by unfold dP; omega)).wI (by unfold dP; omega)) e4)
      · rw [if_neg k0, if_neg (by omega)] at hRe
        refine ⟨fun _ => hP156 _ ?_, fun hh => absurd ((c10.t4 k1).mp hh) k0⟩
        exact k_mustJ tx10 c10 (fun hh => absurd rfl hh) (fun _ s' F' e' => hExit _ s' hRe (F10.trans (F'.fr dP_nx)) e')
    refine ⟨fun hh => absurd hb.1 hh, fun _ => ⟨fun hh => other (fun h2 => hh ((c10.t0 k1).mpr h2)), fun ht => ?_⟩⟩
    have h2 : tkK (tkJ T n j) = 2 := (c10.t0 k1).mp ht
    rw [if_neg (by omega)] at hRe
    clear other hP142
    intro x17 e17
    rw [c10.2.1] at e17
    subst e17
    rw [n10, nI_inj (by have := l10.2.2.1; omega) (by omega)]
    refine ⟨fun h24 => ?_, fun h24 => ?_⟩
    rotate_left
    · rw [if_neg (by omega)] at hRe
      exact k_wrongT c10 h2 (fun s' F' e' => hErr _ s' hRe (F10.trans (F'.fr dP_nx)) e')
    · rw [if_pos ⟨h2, h24⟩] at hRe
      refine k_nextJ tx10 c10 k1 (fun s18 F18 c18 => ?_)
      have FP18 := F10.trans (F18.fr dP_nx)
      have p18 := p10.nx F18
      have tx18 := h.pf FP18
      have o18 := oj.s (by omega)
      have n18 : (sI s18 139 27) = nI (pN ps).length := p18.2.2.1.1
      have cc18 : (sI s18 139 19) = nI (pC ps).length := p18.1.1
      refine k_isWord c18 (by omega) (fun r19 _ hr19 => ?_)
      intro P121 hP121
      -- a node, or a fault
      have node : ¬ (isW (tkJ T n (j + 1)) 0 = true ∧ pN ps = [] ∧ (pC ps).length < 6) ∨ tkK (tkJ T n (j + 1)) = 1 → P121 := by
        intro hnc
        apply hP121
        refine k_isWord c18 (by omega) (fun r20 _ hr20 => ?_)
        refine k_mustJ tx18 c18 (fun hz hk => ⟨fun hh => absurd hh (by decide), fun _ => ?_⟩) (fun hz s' F' e' => ⟨fun _ => ?_, fun hh => absurd rfl hh⟩)
        · have hw : isW (tkJ T n (j + 1)) 1 = true := by rw [hr20 hk] at hz; exact if1 hz
          have h6 : tkK (tkJ T n (j + 1)) = 6 := by unfold isW at hw; simp at hw; exact hw.1
          rw [if_pos hw] at hRe
          refine k_readNode (F := 8193) tx18 c18 (by omega) o18 p18 w10 (by have := l10.2.2.1; omega) l10.2.2.2 (by have := l10.1; have := l10.2.1; omega) (by omega) (fun ps' j' hp o' w' h1 h3 h4 h5 s' F' c' p' => ?_) (fun e he s' F' e' => ?_)
          · have hp : pNode (tkJ T n) 8193 ps (j + 2) = .ok (ps', j') := hp
            rw [hp] at hRe
            refine ih j' ps' s' (by rw [h1, h4]; omega) o' (FP18.trans F') c' p' w' ⟨by rw [h1]; exact l10.1, by rw [h1, h3]; exact l10.2.1, by have := l10.2.2.1; omega, h5⟩ (fun hN => by rw [hN] at h4; simp at h4) hRe
          · have he : pNode (tkJ T n) 8193 ps (j + 2) = .error e := he
            rw [he] at hRe
            exact hE s' e hRe (FP18.trans F') e'
        · have hw : isW (tkJ T n (j + 1)) 1 = false := by
            by_cases hk : tkK (tkJ T n (j + 1)) = 1
            · unfold isW; simp [hk]
            · rcases hz with hz | hz
              · rw [hr20 hk] at hz; exact if0 hz
              · exact absurd hz hk
          have hnc' : ¬ (isW (tkJ T n (j + 1)) 0 = true ∧ pN ps = [] ∧ (pC ps).length < 6) := by
            rcases hnc with hnc | hnc
            · exact hnc
            · unfold isW; simp [hnc]
          rw [if_neg (by simp [hw]), if_neg hnc'] at hRe
          exact hE s' _ hRe (FP18.trans (F'.fr dP_nx)) e'
      rw [n18, cc18]
      have nz : nI (pN ps).length = 0 ↔ pN ps = [] := by
        rw [nI_0U, nI_inj (by have := l10.2.2.1; omega) (by omega)]
        constructor
        · intro hh; exact List.length_eq_zero_iff.mp hh
        · intro hh; rw [hh]; rfl
      rw [nz, nI_leU (by omega) (by have := l10.1; omega)]
      have w0 : r19 = 0 → ¬ (isW (tkJ T n (j + 1)) 0 = true) ∨ tkK (tkJ T n (j + 1)) = 1 := by
        intro hz
        by_cases hk : tkK (tkJ T n (j + 1)) = 1
        · exact Or.inr hk
        · left; rw [hr19 hk] at hz; simp [if0 hz]
      refine ⟨fun hz => node (by rcases w0 hz with h3 | h3; exact Or.inl (fun h4 => h3 h4.1); exact Or.inr h3), fun hz => ⟨fun hne => node (Or.inl (fun h4 => hne h4.2.1)), fun hem => ⟨fun h6 => node (Or.inl (fun h4 => by omega)), fun h6 => ?_⟩⟩⟩
      by_cases hk : tkK (tkJ T n (j + 1)) = 1
      · -- a bad token that looks like the word
        rw [if_neg (by unfold isW; simp [hk]), if_neg (by unfold isW; simp [hk])] at hRe
        have e18 := c18.bad hk
        unfold W_X12_readCounter
        refine k_nextE tx18 e18 (fun s1 F1 e1 => ?_)
        have FP1 := FP18.trans (F1.fr dP_nx)
        intro P40 hP40
        have hQ : ∀ y, P40 y := fun y => hP40 y (k_mustE e1 ⟨fun hh => absurd rfl hh, fun _ => hE s1 _ hRe FP1 e1⟩)
        refine ⟨fun _ => hQ _, fun _ => k_isReservedE (fun r => ⟨fun _ => hQ _, fun _ => ?_⟩)⟩
        have cc1 : (sI s1 139 19) = nI (pC ps).length := (F1.f _ (by omega)).trans cc18
        rw [cc1]
        unfold W_X12_isOld
        intro P5 hP5
        suffices hI : ∀ (m k : Nat) (r : Int32), k + m = (pC ps).length → (r = 0 ∨ r = 1) → P5 r (nI k) from hI (pC ps).length 0 0 (by omega) (Or.inl rfl)
        intro m
        have lc := l10.1
        induction m with
        | zero =>
          intro k r hk' hr
          apply hP5
          rw [nI_leU (by omega) (by omega)]
          exact ⟨fun _ => ⟨hr, fun _ => hQ _, fun _ => hQ _⟩, fun hh => absurd (by omega) hh⟩
        | succ m ih2 =>
          intro k r hk' hr
          apply hP5
          rw [nI_leU (by omega) (by omega)]
          refine ⟨fun hh => absurd hh (by omega), fun _ => ?_⟩
          intro P32 hP32
          have go : ∀ y : Int32, (y = 0 ∨ y = 1) → P32 y := fun y hy => hP32 y (fun x5 e5 => by subst e5; rw [nI_s]; exact ih2 (k + 1) y (by omega) hy)
          exact ⟨fun _ => go 1 (Or.inr rfl), fun _ => ⟨nI_inU (by omega) (by omega), fun _ => go 0 (Or.inl rfl), fun _ => go 1 (Or.inr rfl)⟩⟩
      · have hw : isW (tkJ T n (j + 1)) 0 = true := by rw [hr19 hk] at hz; exact if1 hz
        have hw1 : isW (tkJ T n (j + 1)) 1 = false := by unfold isW at hw ⊢; simp at hw ⊢; omega
        have h66 : tkK (tkJ T n (j + 1)) = 6 := by unfold isW at hw; simp at hw; exact hw.1
        rw [if_neg (by simp [hw1]), if_pos ⟨hw, hem, by omega⟩] at hRe
        refine k_readCounter (F := 8193) tx18 c18 (by omega) o18 p18 w10 (hNW hem) (by omega) l10.2.1 (by omega) (fun ps' j' hp o' w' h1 h3 h4 h5 s' F' c' p' => ?_) (fun e he s' F' e' => ?_)
        · have hp : pCounter (tkJ T n) 8193 ps (j + 2) = .ok (ps', j') := hp
          rw [hp] at hRe
          refine ih j' ps' s' (by rw [h3, h4]; omega) o' (FP18.trans F') c' p' w' ⟨by omega, h5, by rw [h3]; exact l10.2.2.1, by rw [h1]; exact Nat.zero_le _⟩ (fun _ => h1) hRe
        · have he : pCounter (tkJ T n) 8193 ps (j + 2) = .error e := he
          rw [he] at hRe
          exact hE s' e hRe (FP18.trans F') e'
end

section
variable {T : Nat → Nat} {n : Nat}
theorem k_isReservedE {s : yS} {Q : Int32 → Prop} (H : ∀ r : Int32, Q r) : W_X12_isReserved s Q := by
  unfold W_X12_isReserved
  exact k_isWordE (fun _ _ => ⟨fun _ => H 1, fun _ => k_isWordE (fun _ _ => ⟨fun _ => H 1, fun _ => k_isWordE (fun _ _ => ⟨fun _ => H 1, fun _ => k_isWordE (fun _ _ => ⟨fun _ => H 1, fun _ => k_isWordE (fun _ _ => ⟨fun _ => H 1, fun _ => k_isWordE (fun _ _ => ⟨fun _ => H 1, fun _ => k_isWordE (fun _ _ => ⟨fun _ => H 1, fun _ => k_isWordE (fun _ _ => ⟨fun _ => H 1, fun _ => k_isWordE (fun _ _ => ⟨fun _ => H 1, fun _ => k_isWordE (fun _ _ => ⟨fun _ => H 1, fun _ => k_isWordE (fun _ _ => ⟨fun _ => H 1, fun _ => k_isWordE (fun _ _ => ⟨fun _ => H 0, fun _ => H 1⟩)⟩)⟩)⟩)⟩)⟩)⟩)⟩)⟩)⟩)⟩)⟩)
theorem k_readNode {s : yS} {j F : Nat} {ps : PS} {Q : yS → Prop} (h : txM s T n) (hc : cuM s T n j) (hk : 2 ≤ tkK (tkJ T n j)) (ho : okJ T n j) (hps : psM s ps) (hwf : wfP ps) (hnl : (pN ps).length < 24) (hwl : (pW ps).length ≤ 8 * (pN ps).length) (hrl : (pR ps).length ≤ 24) (hF : n < F)
    (Hok : ∀ ps' j', pNode (tkJ T n) F ps (j + 1) = .ok (ps', j') → okJ T n j' → wfP ps' → pC ps' = pC ps → pR ps' = pR ps → (pN ps').length = (pN ps).length + 1 → (pW ps').length ≤ 8 * (pN ps').length → ∀ s', frM dP s s' → cuM s' T n j' → psM s' ps' → Q s')
    (Herr : ∀ e, pNode (tkJ T n) F ps (j + 1) = .error e → ∀ s', frM dP s s' → erM s' n e → Q s') : W_X12_readNode s Q := by
  have hn := h.1
  obtain ⟨cs, rs, ns, ws, gs⟩ := ps
  have hnl : ns.length < 24 := hnl
  have hwl : ws.length ≤ 8 * ns.length := hwl
  have hrl : rs.length ≤ 24 := hrl
  unfold W_X12_readNode
  rw [wd351]
  refine k_nextJ h hc (by omega) (fun s1 F1 c1 => ?_)
  have tx1 := F1.txM h
  have ps1 := hps.nx F1
  have FP1 : frM dP s s1 := F1.fr dP_nx
  have o1 := ho.s hk
  have g1 : (sI s1 139 27) = nI ns.length := ps1.2.2.1.1
  intro P40 hP40
  have bad : ¬ (tkK (tkJ T n (j + 1)) = 5 ∧ ¬ tkN (tkJ T n (j + 1)) ∈ ns) → ∀ y, (y = 0 ∨ tkK (tkJ T n (j + 1)) = 1) → P40 y := by
    intro hb y hy
    have he : pNode (tkJ T n) F (cs, rs, ns, ws, gs) (j + 1) = .error (pRef (tkJ T n (j + 1))) := by unfold pNode; exact if_neg hb
    apply hP40
    refine k_mustJ tx1 c1 (fun h1 h2 => ?_) (fun _ s' F' e' => ⟨fun hh => absurd rfl hh, fun _ => Herr _ he s' (FP1.trans (F'.fr dP_nx)) e'⟩)
    rcases hy with hy | hy
    · exact absurd hy h1
    · exact absurd hy h2
  have hold := k_isOld (Q := fun r46 => (¬ r46 = 0 → P40 0) ∧ (r46 = 0 → P40 1)) c1 (a := 151) (N := 24) (l := ns) (by omega) (by omega) ps1.2.2.1.2 hwf.2.2.2.2
  by_cases hk1 : tkK (tkJ T n (j + 1)) = 1
  · have hb := bad (by omega)
    refine ⟨fun _ => hb _ (Or.inr hk1), fun _ => k_isReserved c1 (fun r _ _ => ⟨fun _ => hb _ (Or.inr hk1), fun _ => ?_⟩)⟩
    rw [g1]
    exact hold (fun r _ _ => ⟨fun _ => hb _ (Or.inr hk1), fun _ => hb _ (Or.inr hk1)⟩)
  rw [c1.t2 hk1]
  refine ⟨fun h3 => bad (by omega) _ (Or.inl rfl), fun h3 => k_isReserved c1 (fun r _ hr => ?_)⟩
  have hr := hr hk1
  refine ⟨fun hz => bad (fun hh => hz (by rw [hr, if_neg (by omega)])) _ (Or.inl rfl), fun hz => ?_⟩
  have h5 : tkK (tkJ T n (j + 1)) = 5 := by
    rcases h3 with h3 | h3
    · exact h3
    · rw [if_pos h3] at hr; rw [hr] at hz; exact absurd hz (by decide)
  rw [g1]
  refine hold (fun r2 _ hr2 => ⟨fun hz2 => bad (fun hh => hz2 ((hr2 h5).mpr hh.2)) _ (Or.inl rfl), fun hz2 => ?_⟩)
  have hnew := (hr2 h5).mp hz2
  clear hold hr2 hz2 bad
  have hpc : pNode (tkJ T n) F (cs, rs, ns, ws, gs) (j + 1) = pWays (tkJ T n) F ns.length 8 (cs, rs, ns ++ [tkN (tkJ T n (j + 1))], ws, gs) (j + 2) := by unfold pNode; exact if_pos ⟨h5, hnew⟩
  rw [hpc] at Hok Herr
  clear hpc
  apply hP40
  refine k_mustJ tx1 c1 (fun _ _ => ⟨fun _ => ?_, fun hh => absurd hh (by decide)⟩) (fun hh => hh.elim (fun hh => absurd hh (by decide)) (fun hh => absurd hh hk1))
  rw [g1, nI_ix (by omega)]
  refine ⟨nI_inU hnl (by omega), ?_⟩
  intro s6 e6 s7 e7
  rw [(c1.2.2.2.2.2.2.2.2 (Or.inl h5)).2] at e6
  have g6 : (sI s6 139 27) = nI ns.length := by subst e6; exact g1
  rw [g6, nI_s] at e7
  have FP7 : frM dP s s7 := by subst e7; subst e6; exact (FP1.wJ (by unfold dP; omega)).wI (by unfold dP; omega)
  have c7 : cuM s7 T n (j + 1) := c1.fr (fun i hi => by subst e7; subst e6; rw [sI_w, if_neg (by omega), sI_wJ]) (fun i hi => by subst e7; subst e6; rw [sJ_wI, sJ_w, if_neg (by omega)])
  generalize hns1 : ns ++ [tkN (tkJ T n (j + 1))] = ns1 at Hok Herr
  have lns1 : ns1.length = ns.length + 1 := by rw [← hns1, List.length_append]; rfl
  have ps7 : psM s7 (cs, rs, ns1, ws, gs) := by
    refine ⟨ps1.1.fr (by subst e7; subst e6; rfl) (fun i _ => by subst e7; subst e6; rw [sI_w, if_neg (by omega), sI_wJ]) (fun i hi => by subst e7; subst e6; rw [sJ_wI, sJ_w, if_neg (by omega)]), ps1.2.1.fr (by subst e7; subst e6; rfl) (fun a i _ _ _ => by subst e7; subst e6; rw [sI_w, if_neg (by omega), sI_wJ]), ⟨?_, fun k hk' => ?_⟩, ps1.2.2.2.1.fr (by subst e7; subst e6; rfl) (fun a i _ _ _ => by subst e7; subst e6; rw [sI_w, if_neg (by omega), sI_wJ]) (fun i hi => by subst e7; subst e6; rw [sJ_wI, sJ_w, if_neg (by omega)]), ps1.2.2.2.2.1.fr (by subst e7; subst e6; rfl) (fun a i _ _ => by subst e7; subst e6; rw [sI_w, if_neg (by omega), sI_wJ]) (fun i hi => by subst e7; subst e6; rw [sJ_wI, sJ_w, if_neg (by omega)]), ?_⟩
    · show (sI s7 139 27) = nI ns1.length; rw [lns1]; subst e7; rw [sI_w, if_pos ⟨rfl, rfl⟩]
    · have hk' : k < ns1.length := hk'
      show (sJ s7 151) k = Int64.ofInt (c27 0 ns1[k])
      by_cases ck : k = ns.length
      · subst ck
        have : ns1[ns.length] = tkN (tkJ T n (j + 1)) := by simp [← hns1]
        rw [this]
        subst e7; subst e6
        rw [sJ_wI, sJ_w, if_pos ⟨rfl, rfl⟩]
      · have hk2 : k < ns.length := by omega
        have : ns1[k] = ns[k] := by simp [← hns1, List.getElem_append_left hk2]
        rw [this]
        subst e7; subst e6
        rw [sJ_wI, sJ_w, if_neg (by omega)]
        exact ps1.2.2.1.2 k hk2
    · have hlk : lkOf (cs, rs, ns1, ws, gs) = lkOf (cs, rs, ns, ws, gs) := rfl
      rw [hlk]
      exact ps1.2.2.2.2.2.fr (by subst e7; subst e6; rfl) (fun i _ => by subst e7; subst e6; rw [sI_w, if_neg (by omega), sI_wJ])
  have wf1 : wfP (cs, rs, ns1, ws, gs) := by
    refine ⟨hwf.1, hwf.2.1, hwf.2.2.1, hwf.2.2.2.1, fun c hc' => ?_⟩
    have hc' : c ∈ ns1 := hc'
    rw [← hns1, List.mem_append] at hc'
    rcases hc' with hc' | hc'
    · exact hwf.2.2.2.2 c hc'
    · rw [List.mem_singleton] at hc'; rw [hc']; exact (tkJ_cases T n (j + 1)).2.2.2.2.1 (Or.inl h5)
  clear e7 e6 hP40 ps1
  refine k_nextJ (h.pf FP7) c7 hk1 (fun s8 F8 c8 => ?_)
  have FP8 := FP7.trans (F8.fr dP_nx)
  have ps8 := ps7.nx F8
  have o3 := o1.s (by omega)
  intro P76 hP76
  have hE : ∀ (x : Int32) (s10 : yS) (e : Nat × Nat), pWays (tkJ T n) F ns.length 8 (cs, rs, ns1, ws, gs) (j + 2) = .error e → frM dP s s10 → erM s10 n e → P76 x s10 := by
    intro x s16 e he F16 e16
    apply hP76
    intro P318 hP318
    have hP := hP318 (k_expectE e16 (Herr e he s16 F16 e16))
    exact ⟨fun _ => hP, fun hh => absurd hh e16.ne⟩
  generalize hR : pWays (tkJ T n) F ns.length 8 (cs, rs, ns1, ws, gs) (j + 2) = R at Hok Herr hE
  suffices hLp : ∀ (r i j1 : Nat) (ws1 : List Wy) (gs1 : List Gd) (s16 : yS), i + r = 8 → okJ T n j1 → frM dP s s16 → cuM s16 T n j1 → psM s16 (cs, rs, ns1, ws1, gs1) → wfP (cs, rs, ns1, ws1, gs1) → ws1.length = ws.length + i → R = pWays (tkJ T n) F ns.length r (cs, rs, ns1, ws1, gs1) j1 → P76 (nI i) s16 from
    hLp 8 0 (j + 2) ws gs s8 (by omega) o3 FP8 c8 ps8 wf1 rfl hR.symm
  clear hR FP8 c8 ps8 wf1 FP1 FP7 F8 F1 c1 c7 ps7 g6
  intro r
  have fin : ∀ (i j1 : Nat) (ws1 : List Wy) (gs1 : List Gd) (s16 : yS), i ≤ 8 → okJ T n j1 → frM dP s s16 → cuM s16 T n j1 → psM s16 (cs, rs, ns1, ws1, gs1) → wfP (cs, rs, ns1, ws1, gs1) → ws1.length = ws.length + i → tkK (tkJ T n j1) ≠ 2 → R = (if tkK (tkJ T n j1) = 3 then .ok ((cs, rs, ns1, ws1, gs1), j1 + 1) else .error (pRef (tkJ T n j1))) → W_X12_expect s16 1 (fun s17 => Q s17) := by
    intro i j1 ws1 gs1 s16 hi o1 F16 c16 p16 w16 hl16 h2 hR
    refine k_expect (h.pf F16) c16 (Or.inr ⟨rfl, rfl⟩) (fun h3 s17 F17 c17 => ?_) (fun h3 s17 F17 e17 => ?_)
    · rw [if_pos h3] at hR
      refine Hok _ _ hR (o1.s (by omega)) w16 rfl rfl lns1 ?_ s17 (F16.trans (F17.fr dP_nx)) c17 (p16.nx F17)
      show ws1.length ≤ 8 * ns1.length; omega
    · rw [if_neg h3] at hR
      exact Herr _ hR s17 (F16.trans (F17.fr dP_nx)) e17
  induction r with
  | zero =>
    intro i j1 ws1 gs1 s16 hi o1 F16 c16 p16 w16 hl16 hR
    rw [pWays] at hR
    apply hP76
    intro P318 hP318
    by_cases h2 : tkK (tkJ T n j1) = 2
    · have hb := c16.2.2.2.1 (by omega)
      refine ⟨fun hh => absurd hb.1 hh, fun _ => ⟨fun hh => absurd ((c16.t0 (by omega)).mpr h2) hh, fun _ => ⟨fun hh => absurd (by congr 1) hh, fun _ => ?_⟩⟩⟩
      rw [c16.2.1]
      rw [if_neg (by omega)] at hR
      exact k_wrongT c16 h2 (fun s' F' e' => Herr _ hR s' (F16.trans (F'.fr dP_nx)) e')
    · have hP := hP318 (fin i j1 ws1 gs1 s16 (by omega) o1 F16 c16 p16 w16 hl16 h2 hR)
      refine ⟨fun _ => hP, fun hb => ⟨fun _ => hP, fun hh => ?_⟩⟩
      have hk1 : tkK (tkJ T n j1) ≠ 1 := by
        intro hk; have := (c16.2.2.1 hk).1; rw [hb] at this; exact absurd this (by decide)
      exact absurd ((c16.t0 hk1).mp hh) h2
  | succ r ih =>
    intro i j1 ws1 gs1 s16 hi o1 F16 c16 p16 w16 hl16 hR
    rw [pWays] at hR
    apply hP76
    intro P318 hP318
    by_cases h2 : tkK (tkJ T n j1) = 2
    · have hb := c16.2.2.2.1 (by omega)
      rw [if_pos h2] at hR
      refine ⟨fun hh => absurd hb.1 hh, fun _ => ⟨fun hh => absurd ((c16.t0 (by omega)).mpr h2) hh, fun _ => ⟨fun _ => ?_, fun hh => by rw [nI_inj (by omega) (by omega)] at hh; omega⟩⟩⟩
      clear hP318
      refine k_nextJ (h.pf F16) c16 (by omega) (fun s12 F12 c12 => ?_)
      have FP12 := F16.trans (F12.fr dP_nx)
      have ps12 := p16.nx F12
      have o18 := o1.s (by omega)
      -- a fault ahead of the name
      have err : ∀ (e : Nat × Nat) (s17 : yS), R = .error e → frM dP s s17 → erM s17 n e → ∀ (x16 r14 : Int32), (∀ P153 : Int32 → Prop, (∀ (y18 : Int32), (W_X12_must s17 y18 
        (fun r19 s20 => ((r19 = 0 → P76 (nI i) s20)
        ∧ (¬ r19 = 0 → vp_in (sI s20 139 34) 192 ∧ ∀ s22 : yS, s22 = wI s20 152 (ix (sI s20 139 34)) ((sI s20 139 27) - 1) → 
         vp_in (sI s22 139 34) 192 ∧ ∀ s24 : yS, s24 = wI s22 153 (ix (sI s22 139 34)) r14 → 
         vp_in (sI s24 139 34) 192 ∧ ∀ s26 : yS, s26 = wI s24 154 (ix (sI s24 139 34)) x16 → 
         vp_in (sI s26 139 34) 192 ∧ ∀ s28 : yS, s28 = wI s26 155 (ix (sI s26 139 34)) ((sI s26 139 41) - x16) → 
         vp_in (sI s28 139 34) 192 ∧ ∀ s30 : yS, s30 = wJ s28 156 (ix (sI s28 139 34)) (sJ s28 139 13) → 
         W_X12_look s30 1 (sI s30 139 34) 0 
         (fun s31 => ∀ s32 : yS, s32 = wI s31 139 34 ((sI s31 139 34) + 1) → 
         ∀ x33 : Int32, x33 = (nI i + 1) → 
         W_X12_next s32 
         (fun s34 => W_X12_expect s34 1 
         (fun s35 => P76 x33 s35))))))) → P153 y18) → 
       ((¬ (sI s17 139 11) = (nI 2) → P153 0)
       ∧ ((sI s17 139 11) = (nI 2) → W_X12_isReserved s17 
        (fun r36 => ((¬ r36 = 0 → P153 0)
        ∧ (r36 = 0 → P153 1)))))) := by
        intro e s17 hRe F17 e17 x16 r14 P153 hP153
        have hQ : ∀ y, P153 y := fun y => hP153 y (k_mustE e17 ⟨fun _ => hE _ s17 e hRe F17 e17, fun hh => absurd rfl hh⟩)
        exact ⟨fun _ => hQ _, fun _ => k_isReservedE (fun r => ⟨fun _ => hQ _, fun _ => hQ _⟩)⟩
      have hWay0 : isW (tkJ T n (j1 + 1)) 4 = false → pWay (tkJ T n) F ns.length (cs, rs, ns1, ws1, gs1) (j1 + 1) = .error (pRef (tkJ T n (j1 + 1))) := by
        intro hw; unfold pWay; exact if_neg (by simp [hw])
      have hWay1 : isW (tkJ T n (j1 + 1)) 4 = true → pWay (tkJ T n) F ns.length (cs, rs, ns1, ws1, gs1) (j1 + 1) = (match pCall (tkJ T n) (j1 + 1 + 1) with
        | .error e => .error e
        | .ok (q, j2) =>
          match pGuards (tkJ T n) F 4 gs1 j2 with
          | .error e => .error e
          | .ok (gs', j3) =>
            if tkK (tkJ T n j3) = 5 then
              (if tkK (tkJ T n (j3 + 1)) = 3 then .ok ((cs, rs, ns1, ws1 ++ [(ns.length, q, gs1.length, gs'.length - gs1.length, tkN (tkJ T n j3), tkP (tkJ T n j3))], gs'), j3 + 2)
              else .error (pRef (tkJ T n (j3 + 1))))
            else .error (pRef (tkJ T n j3))) := by
        intro hw; unfold pWay; exact if_pos hw
      refine k_expectWord (h.pf FP12) c12 (by omega) (fun hw s13 F13 c13 => ?_) (fun hw s13 F13 e13 => ?_)
      · rw [hWay1 hw] at hR
        clear hWay0 hWay1
        have k6 : tkK (tkJ T n (j1 + 1)) = 6 := by unfold isW at hw; simp at hw; exact hw.1
        have o13 := o18.s (by omega)
        have FP13 := FP12.trans (F13.fr dP_nx)
        have ps13 := ps12.nx F13
        refine k_readCall (h.pf FP13) c13 (fun q hq hq2 hq1 hq15 s15 F15 c15 => ?_) (fun e he s15 F15 e15 => ?_)
        · rw [hq] at hR
          dsimp only at hR
          have FP15 := FP13.trans (F15.fr dP_nx)
          have ps15 := ps13.nx F15
          have g15 : (sI s15 139 41) = nI gs1.length := ps15.2.2.2.2.1.1
          intro x16 e16
          rw [g15] at e16
          subst e16
          have hgb : gs1.length ≤ 4 * (rs.length + ws1.length) := w16.1
          have hlb : (lkOf (cs, rs, ns1, ws1, gs1)).length ≤ 5 * (rs.length + ws1.length) := lkOf_len w16
          refine k_readGuards (F := F) (h.pf FP15) c15 (o13.s hq2) ps15.2.2.2.2.1 (by show gs1.length + 4 ≤ 900; omega) ps15.2.2.2.2.2 (by omega) hF (fun gs' j3 hg' o3' hk3 m hm hgl' hx s17 F17 c17 g17 l17 => ?_) (fun gs' j3 hg' hk3 s17 F17 e17 => ?_) (fun e he s17 F17 e17 => ?_)
          · have hg' : pGuards (tkJ T n) F 4 gs1 (j1 + 1 + 1 + 1) = .ok (gs', j3) := hg'
            rw [hg'] at hR
            dsimp only at hR
            have hgl' : gs'.length = gs1.length + m := hgl'
            have FP17 := FP15.trans (F17.mono dGP)
            have tx17 := h.pf FP17
            intro P153 hP153
            have bad : ¬ tkK (tkJ T n j3) = 5 → ∀ y, (y = 0 ∨ tkK (tkJ T n j3) = 1) → P153 y := by
              intro hb y hy
              rw [if_neg hb] at hR
              apply hP153
              refine k_mustJ tx17 c17 (fun h1 h2 => ?_) (fun _ s' F' e' => ⟨fun _ => hE _ s' _ hR (FP17.trans (F'.fr dP_nx)) e', fun hh => absurd rfl hh⟩)
              rcases hy with hy | hy
              · exact absurd hy h1
              · exact absurd hy h2
            by_cases hk1 : tkK (tkJ T n j3) = 1
            · have hb := bad (by omega)
              exact ⟨fun _ => hb _ (Or.inr hk1), fun _ => k_isReservedE (fun r => ⟨fun _ => hb _ (Or.inr hk1), fun _ => hb _ (Or.inr hk1)⟩)⟩
            rw [c17.t2 hk1]
            refine ⟨fun h3 => bad (by omega) _ (Or.inl rfl), fun h3 => k_isReserved c17 (fun r36 _ hr => ?_)⟩
            have hr := hr hk1
            refine ⟨fun hz => bad (fun hh => hz (by rw [hr, if_neg (by omega)])) _ (Or.inl rfl), fun hz => ?_⟩
            have h5 : tkK (tkJ T n j3) = 5 := by
              rcases h3 with h3 | h3
              · exact h3
              · rw [if_pos h3] at hr; rw [hr] at hz; exact absurd hz (by decide)
            rw [if_pos h5] at hR
            clear bad
            apply hP153
            refine k_mustJ tx17 c17 (fun _ _ => ⟨fun hh => absurd hh (by decide), fun _ => ?_⟩) (fun hh => hh.elim (fun hh => absurd hh (by decide)) (fun hh => absurd hh hk1))
            have p17c : csM s17 cs := ps15.1.gf F17
            have p17r : rsM s17 rs := ps15.2.1.gf F17
            have p17n : nsM s17 ns1 := ps15.2.2.1.gf F17
            have p17w : wsM s17 ws1 := ps15.2.2.2.1.gf F17
            have w17 : (sI s17 139 34) = nI ws1.length := p17w.1
            have n17 : (sI s17 139 27) = nI ns1.length := p17n.1
            rw [w17, nI_ix (by omega), n17, nI_p (by omega)]
            have hcl1 : ns1.length - 1 = ns.length := by omega
            rw [hcl1]
            refine ⟨nI_inU (by omega) (by omega), ?_⟩
            intro s22 e22
            have w22 : (sI s22 139 34) = nI ws1.length := by subst e22; exact w17
            rw [w22, nI_ix (by omega)]
            refine ⟨nI_inU (by omega) (by omega), ?_⟩
            intro s24 e24
            have w24 : (sI s24 139 34) = nI ws1.length := by subst e24; exact w22
            rw [w24, nI_ix (by omega)]
            refine ⟨nI_inU (by omega) (by omega), ?_⟩
            intro s26 e26
            have w26 : (sI s26 139 34) = nI ws1.length := by subst e26; exact w24
            have g26 : (sI s26 139 41) = nI gs'.length := by subst e26; subst e24; subst e22; exact g17.1
            rw [w26, nI_ix (by omega), g26, nI_sub (by omega)]
            refine ⟨nI_inU (by omega) (by omega), ?_⟩
            intro s28 e28
            have w28 : (sI s28 139 34) = nI ws1.length := by subst e28; exact w26
            have nm28 : (sJ s28 139 13) = Int64.ofInt (c27 0 (tkN (tkJ T n j3))) := by subst e28; subst e26; subst e24; subst e22; exact (c17.2.2.2.2.2.2.2.2 (Or.inl h5)).2
            rw [w28, nI_ix (by omega), nm28]
            refine ⟨nI_inU (by omega) (by omega), ?_⟩
            intro s30 e30
            have w30 : (sI s30 139 34) = nI ws1.length := by subst e30; exact w28
            rw [w30]
            have fI : ∀ a i, (a < 152 ∨ 155 < a ∨ i < ws1.length) → sI s30 a i = sI s17 a i := by
              intro a i ha
              subst e30; subst e28; subst e26; subst e24; subst e22
              rw [sI_wJ, sI_w, if_neg (by omega), sI_w, if_neg (by omega), sI_w, if_neg (by omega), sI_w, if_neg (by omega)]
            have fJ : ∀ a i, (a ≠ 156 ∨ i < ws1.length) → sJ s30 a i = sJ s17 a i := by
              intro a i ha
              subst e30; subst e28; subst e26; subst e24; subst e22
              rw [sJ_w, if_neg (by omega)]; rfl
            have F30 : frM dP s s30 := by subst e30; subst e28; subst e26; subst e24; subst e22; exact ((((FP17.wI (by unfold dP; omega)).wI (by unfold dP; omega)).wI (by unfold dP; omega)).wI (by unfold dP; omega)).wJ (by unfold dP; omega)
            have v30 : ws1r s30 ws1.length (ns.length, q, gs1.length, gs'.length - gs1.length, tkN (tkJ T n j3), tkP (tkJ T n j3)) := by
              unfold ws1r wO wCl wF wM wN
              subst e30; subst e28; subst e26; subst e24; subst e22
              dsimp only
              refine ⟨?_, ?_, ?_, ?_, ?_⟩
              · rw [sI_wJ, sI_w, if_neg (by omega), sI_w, if_neg (by omega), sI_w, if_neg (by omega), sI_w, if_pos ⟨rfl, rfl⟩]
              · rw [sI_wJ, sI_w, if_neg (by omega), sI_w, if_neg (by omega), sI_w, if_pos ⟨rfl, rfl⟩]
              · rw [sI_wJ, sI_w, if_neg (by omega), sI_w, if_pos ⟨rfl, rfl⟩]
              · rw [sI_wJ, sI_w, if_pos ⟨rfl, rfl⟩]
              · rw [sJ_w, if_pos ⟨rfl, rfl⟩]
            clear e30 e28 e26 e24 e22 w22 w24 w26 g26 w28 nm28 hP153 err
            have c30 : cuM s30 T n j3 := c17.fr (fun i hi => fI _ _ (by omega)) (fun i hi => fJ _ _ (by omega))
            have l30 := l17.fr (s' := s30) (fI _ _ (by omega)) (fun i _ => fI _ _ (by omega))
            refine k_look (w := 1) (c := 0) l30 (by rw [List.length_append, List.length_map, List.length_range']; omega) c30.2.1 (fun s31 l31 f31 fJ31 fR31 => ?_)
            intro s32 e32 x33 e33
            subst e33; rw [nI_s]
            have w31 : (sI s31 139 34) = nI ws1.length := by rw [f31 _ _ (by omega) (by omega)]; exact w30
            rw [w31, nI_s] at e32
            have F32 : frM dP s s32 := by
              have : frM dP s s31 := F30.trans ⟨fun a i hd => f31 a i (by unfold dP at hd; omega) (by unfold dP at hd; omega), fun a i _ => fJ31 a i, fR31⟩
              subst e32; exact this.wI (by unfold dP; omega)
            have c32' : cuM s32 T n j3 := c30.fr (fun i hi => by subst e32; rw [sI_w, if_neg (by omega)]; exact f31 _ _ (by omega) (by omega)) (fun i hi => by subst e32; exact fJ31 _ _)
            have fI2 : ∀ a i, a ≠ 164 → ¬ (a = 139 ∧ (i = 43 ∨ i = 34)) → (a < 152 ∨ 155 < a ∨ i < ws1.length) → sI s32 a i = sI s17 a i := by
              intro a i h1 h2 h3; subst e32; rw [sI_w, if_neg (by omega), f31 _ _ h1 (by omega)]; exact fI a i h3
            have fJ2 : ∀ a i, (a ≠ 156 ∨ i < ws1.length) → sJ s32 a i = sJ s17 a i := by
              intro a i h3; subst e32; rw [sJ_wI, fJ31]; exact fJ a i h3
            generalize hwl2 : ((ns.length, q, gs1.length, gs'.length - gs1.length, tkN (tkJ T n j3), tkP (tkJ T n j3)) : Wy) = wl at hR v30
            have wf32 : wfP (cs, rs, ns1, ws1 ++ [wl], gs') := by
              refine ⟨?_, fun r' hr' => ?_, fun w hw => ?_, w16.2.2.2⟩
              · show gs'.length ≤ 4 * (rs.length + (ws1 ++ [wl]).length); rw [List.length_append]; show _ ≤ 4 * (rs.length + (ws1.length + 1)); omega
              · have := w16.2.1 r' hr'
                have h1 : rM r' ≤ 4 := this.1
                have h2 : rF r' + rM r' ≤ gs1.length := this.2
                exact ⟨h1, by show _ ≤ gs'.length; omega⟩
              · show wM w ≤ 4 ∧ wF w + wM w ≤ gs'.length
                have hw : w ∈ ws1 ++ [wl] := hw
                rw [List.mem_append] at hw
                rcases hw with hw | hw
                · have := w16.2.2.1 w hw
                  have h1 : wM w ≤ 4 := this.1
                  have h2 : wF w + wM w ≤ gs1.length := this.2
                  omega
                · rw [List.mem_singleton] at hw; rw [hw, ← hwl2]; unfold wM wF; dsimp only; omega
            have ps32 : psM s32 (cs, rs, ns1, ws1 ++ [wl], gs') := by
              refine ⟨p17c.fr (fI2 _ _ (by omega) (by omega) (by omega)) (fun i _ => fI2 _ _ (by omega) (by omega) (by omega)) (fun i hi => fJ2 _ _ (by omega)), p17r.fr (fI2 _ _ (by omega) (by omega) (by omega)) (fun a i _ _ _ => fI2 _ _ (by omega) (by omega) (by omega)), p17n.fr (fI2 _ _ (by omega) (by omega) (by omega)) (fun i hi => fJ2 _ _ (by omega)), ⟨?_, fun k hk' => ?_⟩, g17.fr (fI2 _ _ (by omega) (by omega) (by omega)) (fun a i _ _ => fI2 _ _ (by omega) (by omega) (by omega)) (fun i hi => fJ2 _ _ (by omega)), ?_⟩
              · show (sI s32 139 34) = nI (ws1 ++ [wl]).length
                rw [List.length_append]; subst e32; rw [sI_w, if_pos ⟨rfl, rfl⟩]; rfl
              · have hk' : k < (ws1 ++ [wl]).length := hk'
                show ws1r s32 k (ws1 ++ [wl])[k]
                rw [List.length_append] at hk'
                have hk' : k < ws1.length + 1 := hk'
                by_cases ck : k = ws1.length
                · subst ck
                  rw [List.getElem_append_right (by omega)]
                  simp only [Nat.sub_self, List.getElem_cons_zero]
                  have v32 : ∀ a, 152 ≤ a → a ≤ 155 → sI s32 a ws1.length = sI s30 a ws1.length := by
                    intro a h1 h2; subst e32; rw [sI_w, if_neg (by omega)]; exact f31 _ _ (by omega) (by omega)
                  have v32J : sJ s32 156 ws1.length = sJ s30 156 ws1.length := by subst e32; exact fJ31 _ _
                  unfold ws1r at v30 ⊢
                  rw [v32 152 (by omega) (by omega), v32 153 (by omega) (by omega), v32 154 (by omega) (by omega), v32 155 (by omega) (by omega), v32J]
                  exact v30
                · have := p17w.2 k (by omega)
                  rw [List.getElem_append_left (by omega)]
                  unfold ws1r at this ⊢
                  rw [fI2 _ _ (by omega) (by omega) (by omega), fI2 _ _ (by omega) (by omega) (by omega), fI2 _ _ (by omega) (by omega) (by omega), fI2 _ _ (by omega) (by omega) (by omega), fJ2 _ _ (by omega)]
                  exact this
              · obtain ⟨x, hx⟩ := hx
                have hx : gs' = gs1 ++ x := hx
                have e5 : lkOf (cs, rs, ns1, ws1 ++ [wl], gs') = lkOf (cs, rs, ns1, ws1, gs1) ++ (List.range' gs1.length m).map (lkG gs' q) ++ [(1, ws1.length, 0, tkP (tkJ T n j3))] := by
                  rw [lkOf_way, hx, lkOf_ext w16, ← hx, List.append_assoc]
                  congr 1
                  unfold lkW; rw [← hwl2]; unfold wF wM wCl wP; dsimp only
                  rw [show gs'.length - gs1.length = m by omega]
                rw [e5]
                exact l31.fr (by subst e32; rfl) (fun i _ => by subst e32; rw [sI_w, if_neg (by omega)])
            clear e32 f31 fJ31 fR31 fI fJ fI2 fJ2 l31 l30 v30
            refine k_nextJ (h.pf F32) c32' hk1 (fun s34 F34 c34 => ?_)
            have FP34 := F32.trans (F34.fr dP_nx)
            refine k_expect (h.pf FP34) c34 (Or.inr ⟨rfl, rfl⟩) (fun h3 s35 F35 c35 => ?_) (fun h3 s35 F35 e35 => ?_)
            · rw [if_pos h3] at hR
              exact ih (i + 1) (j3 + 2) _ _ s35 (by omega) ((o3'.s (by omega)).s (by omega)) (FP34.trans (F35.fr dP_nx)) c35 ((ps32.nx F34).nx F35) wf32 (by rw [List.length_append]; show ws1.length + 1 = _; omega) hR
            · rw [if_neg h3] at hR
              exact hE _ s35 _ hR (FP34.trans (F35.fr dP_nx)) e35
          · have hg' : pGuards (tkJ T n) F 4 gs1 (j1 + 1 + 1 + 1) = .ok (gs', j3) := hg'
            rw [hg'] at hR
            dsimp only at hR
            rw [if_neg (by omega)] at hR
            exact err _ s17 hR (FP15.trans (F17.mono dGP)) e17 _ _
          · have he : pGuards (tkJ T n) F 4 gs1 (j1 + 1 + 1 + 1) = .error e := he
            rw [he] at hR
            exact err _ s17 hR (FP15.trans (F17.mono dGP)) e17 _ _
        · rw [he] at hR
          intro x16 e16
          exact k_readGuardsE e15 (err _ s15 hR (FP13.trans (F15.fr dP_nx)) e15 _ _)
      · rw [hWay0 hw] at hR
        refine k_readCallE e13 ?_
        intro x16 e16
        exact k_readGuardsE e13 (err _ s13 hR (FP12.trans (F13.fr dP_nx)) e13 _ _)
    · rw [if_neg h2] at hR
      have hP := hP318 (fin i j1 ws1 gs1 s16 (by omega) o1 F16 c16 p16 w16 hl16 h2 hR)
      refine ⟨fun _ => hP, fun hb => ⟨fun _ => hP, fun hh => ?_⟩⟩
      have hk1 : tkK (tkJ T n j1) ≠ 1 := by
        intro hk; have := (c16.2.2.1 hk).1; rw [hb] at this; exact absurd this (by decide)
      exact absurd ((c16.t0 hk1).mp hh) h2
end

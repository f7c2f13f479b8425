section
variable {T : Nat → Nat} {n : Nat} {s : yS} {j p : Nat}
theorem qL_len (ps : PS) : (qL ps).length = (pR ps).length + (pW ps).length := by unfold qL; rw [List.length_append, List.length_map, List.length_map]
theorem c_readWay {F c : Nat} {ps : PS} {Q : Int32 → yS → Prop} (h : tkA s T n) (hp : polC s p) (ha : (sI s 91 2) = nI j) (o : okJ T n j) (hps : psC s p ps) (hc : (pN ps).length = c + 1) (hc6 : (pC ps).length ≤ 6) (hn24 : (pN ps).length ≤ 24) (hr : (pR ps).length ≤ 24) (hw : (pW ps).length < 192) (hgl : (pG ps).length ≤ 4 * ((pR ps).length + (pW ps).length)) (hF : n < F)
    (Hok : ∀ ps' j', pWay (tkJ T n) F c ps j = .ok (ps', j') → okJ T n j' → pC ps' = pC ps → pN ps' = pN ps → pR ps' = pR ps → (pW ps').length = (pW ps).length + 1 → (pG ps').length ≤ 4 * ((pR ps').length + (pW ps').length) → (∀ w ∈ pW ps', w ∈ pW ps ∨ wO w = c) → ∀ s', frM (dC p) s s' → (sI s' 91 2) = nI j' → psC s' p ps' → Q 1 s')
    (Herr : ∀ e, pWay (tkJ T n) F c ps j = .error e → ∀ s', frM (dEr p) s s' → erC s' e → Q 0 s') : W_X4_readWay s Q := by
  have hp3 := hp.1
  have hqlen := qL_len ps
  obtain ⟨cs, rs, ns, ws, gs⟩ := ps
  have hc : ns.length = c + 1 := hc
  have hc6 : cs.length ≤ 6 := hc6
  have hn24 : ns.length ≤ 24 := hn24
  have hr : rs.length ≤ 24 := hr
  have hw : ws.length < 192 := hw
  have hgl : gs.length ≤ 4 * (rs.length + ws.length) := hgl
  have hqlen : (qL (cs, rs, ns, ws, gs)).length = rs.length + ws.length := hqlen
  unfold W_X4_readWay
  refine c_takeWord h ha o (by omega) (fun hw4 => ⟨fun _ => ?_, fun hz => absurd hz (by decide)⟩) (fun hw4 => ⟨fun hz => absurd rfl hz, fun _ => ?_⟩)
  rotate_left
  · refine c_refuse h ha o (fun s' F' a' e' => ⟨Or.inl rfl, Herr _ ?_ s' (F'.mono dF_E) e'⟩)
    unfold pWay; rw [if_neg (by simp [hw4])]
  · have k6 : tkK (tkJ T n j) = 6 := by unfold isW at hw4; simp at hw4; exact hw4.1
    have hpr : pWay (tkJ T n) F c (cs, rs, ns, ws, gs) j = (match pCall (tkJ T n) (j + 1) with
      | .error e => .error e
      | .ok (q, j2) =>
        match pGuards (tkJ T n) F 4 gs j2 with
        | .error e => .error e
        | .ok (gs', j3) =>
          if tkK (tkJ T n j3) = 5 then
            (if tkK (tkJ T n (j3 + 1)) = 3 then .ok ((cs, rs, ns, ws ++ [(c, q, gs.length, gs'.length - gs.length, tkN (tkJ T n j3), tkP (tkJ T n j3))], gs'), j3 + 2)
            else .error (pRef (tkJ T n (j3 + 1))))
          else .error (pRef (tkJ T n j3))) := by unfold pWay; exact if_pos hw4
    rw [hpr] at Hok Herr
    clear hpr
    have F2 : frM (dC p) s (wI s 91 2 (nI (j + 1))) := frM.rfl'.wI (by unfold dC; omega)
    have hp2 := hp.fr F2
    refine ⟨p, hp2.2, hp2.kd, ?_⟩
    intro x4 e4
    have q2 : sI s p 4 = nI (rs.length + ws.length) := by
      have := hps.2.2.2.2.1.1; rw [hqlen] at this; exact this
    rw [sI_w, if_neg (by omega), q2] at e4
    subst e4
    have c8 : clC (wI s 91 2 (nI (j + 1))) p (qL (cs, rs, ns, ws, gs)) := hps.2.2.2.2.1.fr (by rw [sI_w, if_neg (by omega)]) (fun i hi => by rw [sI_w, if_neg (by omega)]) (fun i hi => by rw [sI_w, if_neg (by omega)])
    have g8 : gdC (wI s 91 2 (nI (j + 1))) p gs := hps.2.2.2.2.2.fr (by rw [sI_w, if_neg (by omega)]) (fun a i ha hi => by rw [sI_w, if_neg (by omega)]) (fun i hi => rfl)
    refine c_readClause (F := F) (h.c hp3 F2) hp2 (by rw [sI_w, if_pos ⟨rfl, rfl⟩]) (o.s (by omega)) c8 (by omega) g8 (by omega) hF (fun q gs' j3 hq hgq o3 m hm hgl' s6 F6 a6 g6 c6 => ⟨fun _ => ?_, fun hz => absurd hz (by decide)⟩) (fun e he s6 F6 e6 => ⟨fun hz => absurd rfl hz, fun _ => ?_⟩)
    rotate_left
    · rcases he with he | ⟨q, hq, hge⟩
      · rw [he] at Herr; exact Herr e rfl s6 ((F2.mono dC_E).trans F6) e6
      · rw [hq] at Herr; dsimp only at Herr; rw [hge] at Herr; exact Herr e rfl s6 ((F2.mono dC_E).trans F6) e6
    · rw [hq] at Hok Herr
      dsimp only at Hok Herr
      rw [hgq] at Hok Herr
      dsimp only at Hok Herr
      have FC6 := F2.trans (F6.mono dCl_C)
      obtain ⟨hj3, t1, t2, t3⟩ := (h.c hp3 FC6).at o3
      rw [a6, nI_ix (n := j3) (by omega), nI_ix (n := rs.length + ws.length) (by omega), t3]
      refine ⟨nI_inU (by omega) (by omega), nI_inU (by omega) (by omega), ?_⟩
      intro s9 e9
      have a9 : (sI s9 91 2) = nI j3 := by subst e9; exact a6
      have t9 : (sI s9 94) j3 = nI (tkP (tkJ T n j3)) := by subst e9; exact t2
      rw [a9, nI_ix (n := j3) (by omega), t9]
      refine ⟨nI_inU (by omega) (by omega), nI_inU (by omega) (by omega), ?_⟩
      intro s12 e12
      have F12 : frM (dC p) s s12 := by subst e12; subst e9; exact (FC6.wJ (by unfold dC; omega)).wI (by unfold dC; omega)
      have a12 : (sI s12 91 2) = nI j3 := by subst e12; rw [sI_w, if_neg (by omega)]; exact a9
      have A12 := h.c hp3 F12
      have rf : ∀ (jj : Nat) (s' : yS), frM (dC p) s s' → (sI s' 91 2) = nI jj → okJ T n jj → (∀ s'', frM (dEr p) s s'' → erC s'' (pRef (tkJ T n jj)) → Q 0 s'') → W_X4_refuse s' (fun r16 s17 => ((r16 = 0 → Q 0 s17) ∧ (¬ r16 = 0 → Q 1 s17))) := by
        intro jj s' F' a' o' H
        exact c_refuse (h.c hp3 F') a' o' (fun s'' F'' a'' e'' => ⟨fun _ => H s'' ((F'.mono dC_E).trans (F''.mono dF_E)) e'', fun hz => absurd rfl hz⟩)
      refine c_take A12 a12 o3 (by omega) (fun h5 => ?_) (fun h5 => ?_)
      · rw [if_pos h5] at Hok Herr
        intro P82 hP82
        refine ⟨fun hz => absurd hz (by decide), fun _ => ?_⟩
        have F14 : frM (dC p) s (wI s12 91 2 (nI (j3 + 1))) := F12.wI (by unfold dC; omega)
        have o4 := o3.s (by omega)
        refine c_take (h.c hp3 F14) (by rw [sI_w, if_pos ⟨rfl, rfl⟩]) o4 (by omega) (fun h3 => ⟨fun _ => ?_, fun hz => absurd hz (by decide)⟩) (fun h3 => ⟨fun hz => absurd rfl hz, fun _ => hP82 _ ?_⟩)
        · rw [if_pos h3] at Hok
          have hsub : gs'.length - gs.length = m := by omega
          rw [hsub] at Hok
          have fI : ∀ a i, a ≠ 91 → ¬ (a = 100 ∧ i = rs.length + ws.length) → sI (wI (wI s12 91 2 (nI (j3 + 1))) 91 2 (nI (j3 + 1 + 1))) a i = sI s6 a i := by
            intro a i h1 h2; rw [sI_w, if_neg (by omega), sI_w, if_neg (by omega)]; subst e12; rw [sI_w, if_neg h2]; subst e9; rfl
          have fJ : ∀ a i, ¬ (a = 99 ∧ i = rs.length + ws.length) → sJ (wI (wI s12 91 2 (nI (j3 + 1))) 91 2 (nI (j3 + 1 + 1))) a i = sJ s6 a i := by
            intro a i h2; rw [sJ_wI, sJ_wI]; subst e12; rw [sJ_wI]; subst e9; rw [sJ_w, if_neg h2]
          have v1 : sI (wI (wI s12 91 2 (nI (j3 + 1))) 91 2 (nI (j3 + 1 + 1))) 100 (rs.length + ws.length) = nI (tkP (tkJ T n j3)) := by
            rw [sI_w, if_neg (by omega), sI_w, if_neg (by omega)]; subst e12; rw [sI_w, if_pos ⟨rfl, rfl⟩]
          have v2 : sJ (wI (wI s12 91 2 (nI (j3 + 1))) 91 2 (nI (j3 + 1 + 1))) 99 (rs.length + ws.length) = Int64.ofInt (cN 32 0 (tkN (tkJ T n j3))) := by
            rw [sJ_wI, sJ_wI]; subst e12; rw [sJ_wI]; subst e9; rw [sJ_w, if_pos ⟨rfl, rfl⟩]; unfold vC; rw [if_pos h5]
          have a19 : (sI (wI (wI s12 91 2 (nI (j3 + 1))) 91 2 (nI (j3 + 1 + 1))) 91 2) = nI (j3 + 2) := by rw [sI_w, if_pos ⟨rfl, rfl⟩]
          have F19 : frM (dC p) s (wI (wI s12 91 2 (nI (j3 + 1))) 91 2 (nI (j3 + 1 + 1))) := F14.wI (by unfold dC; omega)
          generalize wI (wI s12 91 2 (nI (j3 + 1))) 91 2 (nI (j3 + 1 + 1)) = s19 at *
          have f6 : ∀ a i, a ≠ 91 → ¬ dCl p a i → sI s6 a i = sI s a i := by
            intro a i h1 h2; rw [F6.1 _ _ h2, sI_w, if_neg (by omega)]
          have f6J : ∀ a i, ¬ dCl p a i → sJ s6 a i = sJ s a i := by
            intro a i h2; rw [F6.2.1 _ _ h2]; rfl
          refine Hok _ _ rfl (o4.s (by omega)) rfl rfl rfl ?_ ?_ ?_ s19 F19 a19 ⟨?_, ?_, ?_, ?_, ?_, ?_⟩
          · show (ws ++ [_]).length = ws.length + 1; rw [List.length_append]; rfl
          · show gs'.length ≤ 4 * (rs.length + (ws ++ [_]).length); rw [List.length_append]; show _ ≤ 4 * (rs.length + (ws.length + 1)); omega
          · intro w hw'
            have hw' : w ∈ ws ++ [_] := hw'
            rw [List.mem_append, List.mem_singleton] at hw'
            rcases hw' with hw' | hw'
            · exact Or.inl hw'
            · right; rw [hw']; rfl
          · exact hps.1.fr (by rw [fI _ _ (by omega) (by omega)]; exact f6 _ _ (by omega) (by unfold dCl; omega)) (fun a i ha hi => by rw [fI _ _ (by omega) (by omega)]; exact f6 _ _ (by omega) (by unfold dCl; omega)) (fun i hi => by rw [fJ _ _ (by omega)]; exact f6J _ _ (by unfold dCl; omega))
          · show nsC s19 p cs.length rs.length ns (ws ++ [(c, q, gs.length, m, tkN (tkJ T n j3), tkP (tkJ T n j3))])
            have h1 : nsC s19 p cs.length rs.length ns ws := hps.2.1.fr (by rw [fI _ _ (by omega) (by omega)]; exact f6 _ _ (by omega) (by unfold dCl; omega)) (fun i hi => by rw [fI _ _ (by omega) (by omega)]; exact f6 _ _ (by omega) (by unfold dCl; omega)) (fun i hi => by rw [fJ _ _ (by omega)]; exact f6J _ _ (by unfold dCl; omega))
            refine ⟨h1.1, fun k hk => ?_⟩
            have := h1.2 k hk
            refine ⟨this.1, ?_⟩
            rw [countP_snoc]; exact this.2
            show decide (c < k) = false
            simp; omega
          · exact hps.2.2.1.fr (fun i hi => by have hi : i < rs.length := hi; rw [fI _ _ (by omega) (by omega)]; exact f6 _ _ (by omega) (by unfold dCl; omega))
          · show wyC s19 rs.length (ws ++ [(c, q, gs.length, m, tkN (tkJ T n j3), tkP (tkJ T n j3))])
            intro k hk
            have hk2 : k < ws.length + 1 := by rw [List.length_append] at hk; exact hk
            by_cases ck : k = ws.length
            · subst ck
              rw [List.getElem_append_right (by omega)]
              simp only [Nat.sub_self, List.getElem_cons_zero]
              exact ⟨v2, v1⟩
            · rw [List.getElem_append_left (by omega), fJ _ _ (by omega), fI _ _ (by omega) (by omega), f6 _ _ (by omega) (by unfold dCl; omega), f6J _ _ (by unfold dCl; omega)]
              exact hps.2.2.2.1 k (by show k < ws.length; omega)
          · have e : qL (cs, rs, ns, ws ++ [(c, q, gs.length, m, tkN (tkJ T n j3), tkP (tkJ T n j3))], gs') = qL (cs, rs, ns, ws, gs) ++ [(q, gs.length, m)] := by unfold qL pR pW wCl wF wM; simp
            rw [e]
            exact c6.fr (fI _ _ (by omega) (by omega)) (fun i hi => fI _ _ (by omega) (by omega)) (fun i hi => fI _ _ (by omega) (by omega))
          · exact g6.fr (fI _ _ (by omega) (by omega)) (fun a i ha hi => fI _ _ (by omega) (by omega)) (fun i hi => fJ _ _ (by omega))
        · rw [if_neg h3] at Herr
          exact rf (j3 + 1) _ F14 (by rw [sI_w, if_pos ⟨rfl, rfl⟩]) o4 (fun s'' F'' e'' => Herr _ rfl s'' F'' e'')
      · rw [if_neg h5] at Herr
        intro P82 hP82
        refine ⟨fun _ => hP82 _ ?_, fun hz => absurd rfl hz⟩
        exact rf j3 s12 F12 a12 o3 (fun s'' F'' e'' => Herr _ rfl s'' F'' e'')
theorem countP_all {α : Type} {f : α → Bool} {l : List α} (h : ∀ a ∈ l, f a = true) : l.countP f = l.length := List.countP_eq_length.mpr h
theorem c_readCounter {F : Nat} {ps : PS} {Q : Int32 → yS → Prop} (h : tkA s T n) (hp : polC s p) (ha : (sI s 91 2) = nI j) (o : okJ T n j) (hps : psC s p ps) (hN : pN ps = []) (hW : pW ps = []) (hc6 : (pC ps).length < 6) (hr : (pR ps).length ≤ 4 * (pC ps).length) (hgl : (pG ps).length ≤ 4 * (pR ps).length) (hnm : ∀ c ∈ pC ps, isNm c.1) (hrO : ∀ r ∈ pR ps, rO r < (pC ps).length) (hF : n < F)
    (Hok : ∀ ps' j', pCounter (tkJ T n) F ps j = .ok (ps', j') → okJ T n j' → (pC ps').length = (pC ps).length + 1 → pN ps' = [] → pW ps' = [] → (pR ps').length ≤ 4 * (pC ps').length → (pG ps').length ≤ 4 * (pR ps').length → ∀ s', frM (dC p) s s' → (sI s' 91 2) = nI j' → psC s' p ps' → Q 1 s')
    (Herr : ∀ e, pCounter (tkJ T n) F ps j = .error e → ∀ s', frM (dEr p) s s' → erC s' e → Q 0 s') : W_X4_readCounter s Q := by
  have hp3 := hp.1
  obtain ⟨cs, rs, ns, ws, gs⟩ := ps
  have hN : ns = [] := hN
  have hW : ws = [] := hW
  subst hN; subst hW
  have hc6 : cs.length < 6 := hc6
  have hr : rs.length ≤ 4 * cs.length := hr
  have hgl : gs.length ≤ 4 * rs.length := hgl
  have hnm : ∀ c ∈ cs, isNm c.1 := hnm
  have hrO : ∀ r ∈ rs, rO r < cs.length := hrO
  have hqlen : (qL (cs, rs, [], [], gs)).length = rs.length := by rw [qL_len]; rfl
  unfold W_X4_readCounter
  refine ⟨p, hp.2, hp.kd, ?_⟩
  intro x2 e2
  have cn : sI s p 0 = nI cs.length := hps.1.1
  rw [cn] at e2; subst e2
  have hnames : ∀ (k : Nat) (h : k < (cs.map Prod.fst).length), sJ s 97 k = Int64.ofInt (cN 32 0 (cs.map Prod.fst)[k]) := by
    intro k hk'
    rw [List.length_map] at hk'
    rw [List.getElem_map]; exact (hps.1.2 k hk').2.1
  have tn := c_takeNewName (Q := fun r3 s4 => ∀ P30 : yS → Prop, (∀ (s5 : yS), (W_X4_refuse s5 
      (fun r6 s7 => zb r6 ∧ Q r6 s7)) → P30 s5) → 
     ((r3 = 0 → P30 s4)
     ∧ (¬ r3 = 0 → W_X4_takeNumber s4 1 (nI 15) 
      (fun r9 s10 => ((¬ r9 = 0 → ∃ p11 : Nat, sR s10 91 4 = p11 + 1 ∧ kd p11 = some (7, 0) ∧ 
       vp_in (nI cs.length) 6 ∧ ∀ s13 : yS, s13 = wI s10 (p11 + 1) (ix (nI cs.length)) (sI s10 91 3) → 
       ∃ p14 : Nat, sR s13 91 4 = p14 + 1 ∧ kd p14 = some (7, 0) ∧ 
       ∃ p15 : Nat, sR s13 91 4 = p15 + 1 ∧ kd p15 = some (7, 0) ∧ 
       vp_in (nI cs.length) 31 ∧ ∀ s17 : yS, s17 = wI s13 (p14 + 2) (ix (nI cs.length)) (sI s13 p15 4) → 
       ∃ p18 : Nat, sR s17 91 4 = p18 + 1 ∧ kd p18 = some (7, 0) ∧ 
       ∀ s19 : yS, s19 = wI s17 p18 0 ((sI s17 p18 0) + 1) → 
       ∀ P79 : Int32 → yS → Prop, (∀ (x20 : Int32) (s21 : yS), (∀ P107 : yS → Prop, (∀ (s22 : yS), (W_X4_take s22 (nI 3) 
         (fun r23 s24 => ((¬ r23 = 0 → Q 1 s24)
         ∧ (r23 = 0 → W_X4_refuse s24 
          (fun r25 s26 => ((r25 = 0 → Q 0 s26)
          ∧ (¬ r25 = 0 → Q 1 s26))))))) → P107 s22) → 
        (((nI 4) ≤ x20 → P107 s21)
        ∧ (¬ (nI 4) ≤ x20 → W_X4_take s21 (nI 2) 
         (fun r27 s28 => ((r27 = 0 → P107 s28)
         ∧ (¬ r27 = 0 → W_X4_readRule s28 
          (fun r29 s30 => ((¬ r29 = 0 → ∀ x31 : Int32, x31 = (x20 + 1) → 
           P79 x31 s30)
          ∧ (r29 = 0 → Q 0 s30))))))))) → P79 x20 s21) → 
       P79 0 s19)
      ∧ (r9 = 0 → P30 s10)))))) h ha o (Or.inl rfl) (a := 97) (N := 6) (l := cs.map Prod.fst) (by rw [List.length_map]; omega) (by omega) hnames (by intro x hx; rw [List.mem_map] at hx; obtain ⟨c', hc1, hc2⟩ := hx; rw [← hc2]; exact hnm c' hc1)
  rw [List.length_map] at tn
  refine tn (fun h5 hnew => ?_) (fun hbad v => ?_)
  rotate_left
  · intro P30 hP30
    refine ⟨fun _ => hP30 _ ?_, fun hz => absurd rfl hz⟩
    have F4 : frM (dC p) s (wJ s 97 cs.length v) := frM.rfl'.wJ (by unfold dC; omega)
    refine c_refuse (h.c hp3 F4) ha o (fun s' F' a' e' => ⟨Or.inl rfl, Herr _ ?_ s' ((F4.mono dC_E).trans (F'.mono dF_E)) e'⟩)
    unfold pCounter; exact if_neg hbad
  · clear tn
    have hpc : pCounter (tkJ T n) F (cs, rs, [], [], gs) j = (if tkK (tkJ T n (j + 1)) = 4 ∧ 1 ≤ tkV (tkJ T n (j + 1)) ∧ tkV (tkJ T n (j + 1)) ≤ 15 then
        pRules (tkJ T n) F cs.length 4 (cs ++ [(tkN (tkJ T n j), (tkV (tkJ T n (j + 1))).toNat)], rs, [], [], gs) (j + 2)
      else .error (pRef (tkJ T n (j + 1)))) := by unfold pCounter; exact if_pos ⟨h5, hnew⟩
    rw [hpc] at Hok Herr
    clear hpc
    intro P30 hP30
    refine ⟨fun hz => absurd hz (by decide), fun _ => ?_⟩
    have F4 : frM (dC p) s (wI (wJ s 97 cs.length (Int64.ofInt (cN 32 0 (tkN (tkJ T n j))))) 91 2 (nI (j + 1))) := (frM.rfl'.wJ (by unfold dC; omega)).wI (by unfold dC; omega)
    have o1 := o.s (by omega)
    have v4 : sJ (wI (wJ s 97 cs.length (Int64.ofInt (cN 32 0 (tkN (tkJ T n j))))) 91 2 (nI (j + 1))) 97 cs.length = Int64.ofInt (cN 32 0 (tkN (tkJ T n j))) := by rw [sJ_wI, sJ_w, if_pos ⟨rfl, rfl⟩]
    have f4 : ∀ a i, a ≠ 91 → sI (wI (wJ s 97 cs.length (Int64.ofInt (cN 32 0 (tkN (tkJ T n j))))) 91 2 (nI (j + 1))) a i = sI s a i := fun a i h1 => by rw [sI_w, if_neg (by omega), sI_wJ]
    have f4J : ∀ a i, ¬ (a = 97 ∧ i = cs.length) → sJ (wI (wJ s 97 cs.length (Int64.ofInt (cN 32 0 (tkN (tkJ T n j))))) 91 2 (nI (j + 1))) a i = sJ s a i := fun a i h1 => by rw [sJ_wI, sJ_w, if_neg h1]
    have a4 : (sI (wI (wJ s 97 cs.length (Int64.ofInt (cN 32 0 (tkN (tkJ T n j))))) 91 2 (nI (j + 1))) 91 2) = nI (j + 1) := by rw [sI_w, if_pos ⟨rfl, rfl⟩]
    generalize wI (wJ s 97 cs.length (Int64.ofInt (cN 32 0 (tkN (tkJ T n j))))) 91 2 (nI (j + 1)) = s4 at *
    refine c_takeNumber (h.c hp3 F4) a4 o1 (fun h4 hl hh s10 F10 a10 t10 => ⟨fun _ => ?_, fun hz => absurd hz (by decide)⟩) (fun hn4 s10 F10 a10 => ⟨fun hz => absurd rfl hz, fun _ => hP30 _ ?_⟩)
    rotate_left
    · have FC10 := F4.trans (F10.mono (dT_C (p := p)))
      refine c_refuse (h.c hp3 FC10) a10 o1 (fun s' F' a' e' => ⟨Or.inl rfl, Herr _ ?_ s' ((FC10.mono dC_E).trans (F'.mono dF_E)) e'⟩)
      exact if_neg (fun h4 => hn4 h4)
    · have hl : 1 ≤ tkV (tkJ T n (j + 1)) := hl
      have hh : tkV (tkJ T n (j + 1)) ≤ 15 := hh
      rw [if_pos ⟨h4, hl, hh⟩] at Hok Herr
      have o2 := o1.s (by omega)
      have FC10 := F4.trans (F10.mono (dT_C (p := p)))
      have hp10 := hp.fr FC10
      have f10 : ∀ a i, a ≠ 91 → sI s10 a i = sI s a i := fun a i h1 => by rw [F10.1 _ _ (by unfold dT; omega), f4 _ _ h1]
      have f10J : ∀ a i, ¬ (a = 97 ∧ i = cs.length) → a ≠ 91 → sJ s10 a i = sJ s a i := fun a i h1 h2 => by rw [F10.2.1 _ _ (by unfold dT; omega), f4J _ _ h1]
      have v10 : sJ s10 97 cs.length = Int64.ofInt (cN 32 0 (tkN (tkJ T n j))) := by rw [F10.2.1 _ _ (by unfold dT; omega)]; exact v4
      refine ⟨p, hp10.2, hp10.kd, nI_inU hc6 (by omega), ?_⟩
      intro s13 e13
      rw [nI_ix (n := cs.length) (by omega), t10] at e13
      have hp13 : polC s13 p := by subst e13; exact hp10
      refine ⟨p, hp13.2, hp13.kd, p, hp13.2, hp13.kd, nI_inU (by omega) (by omega), ?_⟩
      intro s17 e17
      have q13 : sI s13 p 4 = nI rs.length := by
        subst e13; rw [sI_w, if_neg (by omega), f10 _ _ (by omega)]
        have := hps.2.2.2.2.1.1; rw [hqlen] at this; exact this
      rw [nI_ix (n := cs.length) (by omega), q13] at e17
      have hp17 : polC s17 p := by subst e17; exact hp13
      refine ⟨p, hp17.2, hp17.kd, ?_⟩
      intro s19 e19
      have n17 : sI s17 p 0 = nI cs.length := by subst e17; subst e13; rw [sI_w, if_neg (by omega), sI_w, if_neg (by omega), f10 _ _ (by omega)]; exact cn
      rw [n17, nI_s] at e19
      have F19 : frM (dC p) s s19 := by subst e19; subst e17; subst e13; exact ((FC10.wI (by unfold dC; omega)).wI (by unfold dC; omega)).wI (by unfold dC; omega)
      have a19 : (sI s19 91 2) = nI (j + 2) := by subst e19; subst e17; subst e13; rw [sI_w, if_neg (by omega), sI_w, if_neg (by omega), sI_w, if_neg (by omega)]; exact a10
      generalize hcs1 : cs ++ [(tkN (tkJ T n j), (tkV (tkJ T n (j + 1))).toNat)] = cs1 at Hok Herr
      have lcs1 : cs1.length = cs.length + 1 := by rw [← hcs1, List.length_append]; rfl
      have f19 : ∀ a i, a ≠ 91 → ¬ (a = p ∧ i = 0) → ¬ (a = p + 1 ∧ i = cs.length) → ¬ (a = p + 2 ∧ i = cs.length) → sI s19 a i = sI s a i := by
        intro a i h1 h2 h3 h4; subst e19; subst e17; subst e13; rw [sI_w, if_neg h2, sI_w, if_neg h4, sI_w, if_neg h3, f10 _ _ h1]
      have f19J : ∀ a i, ¬ (a = 97 ∧ i = cs.length) → a ≠ 91 → sJ s19 a i = sJ s a i := by
        intro a i h1 h2; subst e19; subst e17; subst e13; rw [sJ_wI, sJ_wI, sJ_wI]; exact f10J a i h1 h2
      have ps19 : psC s19 p (cs1, rs, [], [], gs) := by
        refine ⟨⟨?_, fun k hk => ?_⟩, ⟨?_, fun k hk => absurd hk (by show ¬ k < 0; omega)⟩, ?_, fun k hk => absurd hk (by show ¬ k < 0; omega), ?_, ?_⟩
        · show sI s19 p 0 = nI cs1.length; rw [lcs1]; subst e19; rw [sI_w, if_pos ⟨rfl, rfl⟩]
        · have hk : k < cs1.length := hk
          show sI s19 (p + 1) k = nI cs1[k].2 ∧ sJ s19 97 k = Int64.ofInt (cN 32 0 cs1[k].1) ∧ sI s19 (p + 2) k = nI (rs.countP _)
          by_cases ck : k = cs.length
          · subst ck
            have e : cs1[cs.length] = (tkN (tkJ T n j), (tkV (tkJ T n (j + 1))).toNat) := by simp [← hcs1]
            rw [e]
            refine ⟨?_, ?_, ?_⟩
            · subst e19; subst e17; subst e13; rw [sI_w, if_neg (by omega), sI_w, if_neg (by omega), sI_w, if_pos ⟨rfl, rfl⟩, ← oI_nat]; congr 1; show _ = (((tkV (tkJ T n (j + 1))).toNat : Nat) : Int); omega
            · subst e19; subst e17; subst e13; exact v10
            · subst e19; subst e17; rw [sI_w, if_neg (by omega), sI_w, if_pos ⟨rfl, rfl⟩, countP_all]
              intro r hr'; have := hrO r hr'; simp; exact this
          · have hk2 : k < cs.length := by omega
            have e : cs1[k] = cs[k] := by simp [← hcs1, List.getElem_append_left hk2]
            rw [e, f19 _ _ (by omega) (by omega) (by omega) (by omega), f19 _ _ (by omega) (by omega) (by omega) (by omega), f19J _ _ (by omega) (by omega)]
            exact hps.1.2 k hk2
        · rw [f19 _ _ (by omega) (by omega) (by omega) (by omega)]; exact hps.2.1.1
        · exact hps.2.2.1.fr (fun i hi => f19 _ _ (by omega) (by omega) (by omega) (by omega))
        · have e : qL (cs1, rs, [], [], gs) = qL (cs, rs, [], [], gs) := rfl
          rw [e]
          exact hps.2.2.2.2.1.fr (f19 _ _ (by omega) (by omega) (by omega) (by omega)) (fun i hi => f19 _ _ (by omega) (by omega) (by omega) (by omega)) (fun i hi => f19 _ _ (by omega) (by omega) (by omega) (by omega))
        · exact hps.2.2.2.2.2.fr (f19 _ _ (by omega) (by omega) (by omega) (by omega)) (fun a i ha hi => f19 _ _ (by omega) (by omega) (by omega) (by omega)) (fun i hi => f19J _ _ (by omega) (by omega))
      clear e19 e17 e13 f19 f19J
      intro P79 hP79
      generalize hR : pRules (tkJ T n) F cs.length 4 (cs1, rs, [], [], gs) (j + 2) = R at Hok Herr
      suffices hL : ∀ (r i j1 : Nat) (ps1 : PS) (s21 : yS), i + r = 4 → okJ T n j1 → frM (dC p) s s21 → (sI s21 91 2) = nI j1 → psC s21 p ps1 → pC ps1 = cs1 → pN ps1 = [] → pW ps1 = [] → (pR ps1).length = rs.length + i → (pG ps1).length ≤ 4 * (pR ps1).length → R = pRules (tkJ T n) F cs.length r ps1 j1 → P79 (nI i) s21 from
        hL 4 0 (j + 2) _ s19 (by omega) o2 F19 a19 ps19 rfl rfl rfl rfl hgl hR.symm
      clear hR
      intro r
      have fin : ∀ (i j1 : Nat) (ps1 : PS) (s22 : yS), i ≤ 4 → okJ T n j1 → frM (dC p) s s22 → (sI s22 91 2) = nI j1 → psC s22 p ps1 → pC ps1 = cs1 → pN ps1 = [] → pW ps1 = [] → (pR ps1).length = rs.length + i → (pG ps1).length ≤ 4 * (pR ps1).length → R = (if tkK (tkJ T n j1) = 3 then .ok (ps1, j1 + 1) else .error (pRef (tkJ T n j1))) →
          W_X4_take s22 (nI 3) (fun r23 s24 => ((¬ r23 = 0 → Q 1 s24) ∧ (r23 = 0 → W_X4_refuse s24 (fun r25 s26 => ((r25 = 0 → Q 0 s26) ∧ (¬ r25 = 0 → Q 1 s26)))))) := by
        intro i j1 ps1 s22 hi o1 F22 a22 p22 h1 h2 h3 h4 h5 hRe
        have A22 := h.c hp3 F22
        refine c_take A22 a22 o1 (by omega) (fun h3' => ⟨fun _ => ?_, fun hz => absurd hz (by decide)⟩) (fun h3' => ⟨fun hz => absurd rfl hz, fun _ => ?_⟩)
        · rw [if_pos h3'] at hRe
          refine Hok ps1 (j1 + 1) hRe (o1.s (by omega)) (by rw [h1]; exact lcs1) h2 h3 (by rw [h1, h4]; omega) h5 _ (F22.wI (by unfold dC; omega)) (by rw [sI_w, if_pos ⟨rfl, rfl⟩]) ?_
          obtain ⟨b1, b2, b3, b4, b5, b6⟩ := p22
          exact ⟨b1.fr (by rw [sI_w, if_neg (by omega)]) (fun a i ha hi => by rw [sI_w, if_neg (by omega)]) (fun i hi => rfl), b2.fr (by rw [sI_w, if_neg (by omega)]) (fun i hi => by rw [sI_w, if_neg (by omega)]) (fun i hi => rfl), b3.fr (fun i hi => by rw [sI_w, if_neg (by omega)]), b4.fr (fun i hi => rfl) (fun i hi => by rw [sI_w, if_neg (by omega)]), b5.fr (by rw [sI_w, if_neg (by omega)]) (fun i hi => by rw [sI_w, if_neg (by omega)]) (fun i hi => by rw [sI_w, if_neg (by omega)]), b6.fr (by rw [sI_w, if_neg (by omega)]) (fun a i ha hi => by rw [sI_w, if_neg (by omega)]) (fun i hi => rfl)⟩
        · rw [if_neg h3'] at hRe
          exact c_refuse A22 a22 o1 (fun s' F' a' e' => ⟨fun _ => Herr _ hRe s' ((F22.mono dC_E).trans (F'.mono dF_E)) e', fun hz => absurd rfl hz⟩)
      induction r with
      | zero =>
        intro i j1 ps1 s21 hi o1 F21 a21 p21 h1 h2 h3 h4 h5 hRe
        rw [pRules] at hRe
        apply hP79
        intro P107 hP107
        have hP := hP107 s21 (fin i j1 ps1 s21 (by omega) o1 F21 a21 p21 h1 h2 h3 h4 h5 hRe)
        refine ⟨fun _ => hP, fun hz => absurd ?_ hz⟩
        rw [nI_leU (by omega) (by omega)]; omega
      | succ r ih =>
        intro i j1 ps1 s21 hi o1 F21 a21 p21 h1 h2 h3 h4 h5 hRe
        rw [pRules] at hRe
        apply hP79
        intro P107 hP107
        rw [nI_leU (by omega) (by omega)]
        refine ⟨fun hz => absurd hz (by omega), fun _ => ?_⟩
        refine c_take (h.c hp3 F21) a21 o1 (by omega) (fun hk2 => ⟨fun hz => absurd hz (by decide), fun _ => ?_⟩) (fun hk2 => ⟨fun _ => hP107 _ (fin i j1 ps1 s21 (by omega) o1 F21 a21 p21 h1 h2 h3 h4 h5 (by rw [if_neg hk2] at hRe; exact hRe)), fun hz => absurd rfl hz⟩)
        rw [if_pos hk2] at hRe
        have F28 : frM (dC p) s (wI s21 91 2 (nI (j1 + 1))) := F21.wI (by unfold dC; omega)
        have p28 : psC (wI s21 91 2 (nI (j1 + 1))) p ps1 := by
          obtain ⟨b1, b2, b3, b4, b5, b6⟩ := p21
          exact ⟨b1.fr (by rw [sI_w, if_neg (by omega)]) (fun a i ha hi => by rw [sI_w, if_neg (by omega)]) (fun i hi => rfl), b2.fr (by rw [sI_w, if_neg (by omega)]) (fun i hi => by rw [sI_w, if_neg (by omega)]) (fun i hi => rfl), b3.fr (fun i hi => by rw [sI_w, if_neg (by omega)]), b4.fr (fun i hi => rfl) (fun i hi => by rw [sI_w, if_neg (by omega)]), b5.fr (by rw [sI_w, if_neg (by omega)]) (fun i hi => by rw [sI_w, if_neg (by omega)]) (fun i hi => by rw [sI_w, if_neg (by omega)]), b6.fr (by rw [sI_w, if_neg (by omega)]) (fun a i ha hi => by rw [sI_w, if_neg (by omega)]) (fun i hi => rfl)⟩
        refine c_readRule (F := F) (c := cs.length) (h.c hp3 F28) (hp.fr F28) (by rw [sI_w, if_pos ⟨rfl, rfl⟩]) (o1.s (by omega)) p28 h2 h3 (by rw [h1]; exact lcs1) (by rw [h1]; omega) (by omega) h5 hF (fun ps' j' hpr o' g1 g2 g3 g4 g5 s30 F30 a30 p30 => ⟨fun _ => ?_, fun hz => absurd hz (by decide)⟩) (fun e he s30 F30 e30 => ⟨fun hz => absurd rfl hz, fun _ => ?_⟩)
        · intro x31 e31; subst e31; rw [nI_s]
          rw [hpr] at hRe
          exact ih (i + 1) j' ps' s30 (by omega) o' (F28.trans F30) a30 p30 (g1.trans h1) g2 g3 (by omega) g5 hRe
        · rw [he] at hRe
          exact Herr e hRe s30 ((F28.mono dC_E).trans F30) e30
end

section
variable {T : Nat → Nat} {n : Nat} {s : yS} {j p : Nat}
theorem psC.at {ps : PS} {v : Int32} (h : psC s p ps) (hp : p = 3 ∨ p = 20) : psC (wI s 91 2 v) p ps := by
  obtain ⟨b1, b2, b3, b4, b5, b6⟩ := h
  exact ⟨b1.fr (by rw [sI_w, if_neg (by omega)]) (fun a i ha hi => by rw [sI_w, if_neg (by omega)]) (fun i hi => rfl), b2.fr (by rw [sI_w, if_neg (by omega)]) (fun i hi => by rw [sI_w, if_neg (by omega)]) (fun i hi => rfl), b3.fr (fun i hi => by rw [sI_w, if_neg (by omega)]), b4.fr (fun i hi => rfl) (fun i hi => by rw [sI_w, if_neg (by omega)]), b5.fr (by rw [sI_w, if_neg (by omega)]) (fun i hi => by rw [sI_w, if_neg (by omega)]) (fun i hi => by rw [sI_w, if_neg (by omega)]), b6.fr (by rw [sI_w, if_neg (by omega)]) (fun a i ha hi => by rw [sI_w, if_neg (by omega)]) (fun i hi => rfl)⟩
theorem c_readNode {F : Nat} {ps : PS} {Q : Int32 → yS → Prop} (h : tkA s T n) (hp : polC s p) (ha : (sI s 91 2) = nI j) (o : okJ T n j) (hps : psC s p ps) (hc6 : (pC ps).length ≤ 6) (hn24 : (pN ps).length < 24) (hr : (pR ps).length ≤ 24) (hwl : (pW ps).length ≤ 8 * (pN ps).length) (hgl : (pG ps).length ≤ 4 * ((pR ps).length + (pW ps).length)) (hnm : ∀ c ∈ pN ps, isNm c) (hwO : ∀ w ∈ pW ps, wO w < (pN ps).length) (hF : n < F)
    (Hok : ∀ ps' j', pNode (tkJ T n) F ps j = .ok (ps', j') → okJ T n j' → pC ps' = pC ps → pR ps' = pR ps → (pN ps').length = (pN ps).length + 1 → (pW ps').length ≤ 8 * (pN ps').length → (pG ps').length ≤ 4 * ((pR ps').length + (pW ps').length) → ∀ s', frM (dC p) s s' → (sI s' 91 2) = nI j' → psC s' p ps' → Q 1 s')
    (Herr : ∀ e, pNode (tkJ T n) F ps j = .error e → ∀ s', frM (dEr p) s s' → erC s' e → Q 0 s') : W_X4_readNode s Q := by
  have hp3 := hp.1
  have hqlen := qL_len ps
  obtain ⟨cs, rs, ns, ws, gs⟩ := ps
  have hc6 : cs.length ≤ 6 := hc6
  have hn24 : ns.length < 24 := hn24
  have hr : rs.length ≤ 24 := hr
  have hwl : ws.length ≤ 8 * ns.length := hwl
  have hgl : gs.length ≤ 4 * (rs.length + ws.length) := hgl
  have hnm : ∀ c ∈ ns, isNm c := hnm
  have hwO : ∀ w ∈ ws, wO w < ns.length := hwO
  have hqlen : (qL (cs, rs, ns, ws, gs)).length = rs.length + ws.length := hqlen
  unfold W_X4_readNode
  refine ⟨p, hp.2, hp.kd, ?_⟩
  intro x2 e2
  have cn : sI s p 1 = nI ns.length := hps.2.1.1
  rw [cn] at e2; subst e2
  refine c_takeNewName h ha o (Or.inr rfl) hn24 (by omega) (fun k hk => (hps.2.1.2 k hk).1) hnm (fun h5 hnew => ⟨fun _ => ?_, fun hz => absurd hz (by decide)⟩) (fun hbad v => ⟨fun hz => absurd rfl hz, fun _ => ?_⟩)
  rotate_left
  · have F4 : frM (dC p) s (wJ s 98 ns.length v) := frM.rfl'.wJ (by unfold dC; omega)
    refine c_refuse (h.c hp3 F4) ha o (fun s' F' a' e' => ⟨Or.inl rfl, Herr _ ?_ s' ((F4.mono dC_E).trans (F'.mono dF_E)) e'⟩)
    unfold pNode; exact if_neg hbad
  · have hpc : pNode (tkJ T n) F (cs, rs, ns, ws, gs) j = pWays (tkJ T n) F ns.length 8 (cs, rs, ns ++ [tkN (tkJ T n j)], ws, gs) (j + 1) := by unfold pNode; exact if_pos ⟨h5, hnew⟩
    rw [hpc] at Hok Herr
    clear hpc
    have F4 : frM (dC p) s (wI (wJ s 98 ns.length (Int64.ofInt (cN 32 0 (tkN (tkJ T n j))))) 91 2 (nI (j + 1))) := (frM.rfl'.wJ (by unfold dC; omega)).wI (by unfold dC; omega)
    have o1 := o.s (by omega)
    have v4 : sJ (wI (wJ s 98 ns.length (Int64.ofInt (cN 32 0 (tkN (tkJ T n j))))) 91 2 (nI (j + 1))) 98 ns.length = Int64.ofInt (cN 32 0 (tkN (tkJ T n j))) := by rw [sJ_wI, sJ_w, if_pos ⟨rfl, rfl⟩]
    have f4 : ∀ a i, a ≠ 91 → sI (wI (wJ s 98 ns.length (Int64.ofInt (cN 32 0 (tkN (tkJ T n j))))) 91 2 (nI (j + 1))) a i = sI s a i := fun a i h1 => by rw [sI_w, if_neg (by omega), sI_wJ]
    have f4J : ∀ a i, ¬ (a = 98 ∧ i = ns.length) → sJ (wI (wJ s 98 ns.length (Int64.ofInt (cN 32 0 (tkN (tkJ T n j))))) 91 2 (nI (j + 1))) a i = sJ s a i := fun a i h1 => by rw [sJ_wI, sJ_w, if_neg h1]
    have a4 : (sI (wI (wJ s 98 ns.length (Int64.ofInt (cN 32 0 (tkN (tkJ T n j))))) 91 2 (nI (j + 1))) 91 2) = nI (j + 1) := by rw [sI_w, if_pos ⟨rfl, rfl⟩]
    generalize wI (wJ s 98 ns.length (Int64.ofInt (cN 32 0 (tkN (tkJ T n j))))) 91 2 (nI (j + 1)) = s4 at *
    have hp4 := hp.fr F4
    refine ⟨p, hp4.2, hp4.kd, p, hp4.2, hp4.kd, p, hp4.2, hp4.kd, ?_⟩
    have c4 : sI s4 p 0 = nI cs.length := by rw [f4 _ _ (by omega)]; exact hps.1.1
    have q4 : sI s4 p 4 = nI (rs.length + ws.length) := by
      rw [f4 _ _ (by omega)]; have := hps.2.2.2.2.1.1; rw [hqlen] at this; exact this
    rw [c4, q4, nI_addU, nI_ix (n := cs.length + ns.length) (by omega)]
    refine ⟨nI_inU (by omega) (by omega), ?_⟩
    intro s9 e9
    have hp9 : polC s9 p := by subst e9; exact hp4
    refine ⟨p, hp9.2, hp9.kd, ?_⟩
    intro s11 e11
    have n9 : sI s9 p 1 = nI ns.length := by subst e9; rw [sI_w, if_neg (by omega), f4 _ _ (by omega)]; exact cn
    rw [n9, nI_s] at e11
    have F11 : frM (dC p) s s11 := by subst e11; subst e9; exact (F4.wI (by unfold dC; omega)).wI (by unfold dC; omega)
    have a11 : (sI s11 91 2) = nI (j + 1) := by subst e11; subst e9; rw [sI_w, if_neg (by omega), sI_w, if_neg (by omega)]; exact a4
    generalize hns1 : ns ++ [tkN (tkJ T n j)] = ns1 at Hok Herr
    have lns1 : ns1.length = ns.length + 1 := by rw [← hns1, List.length_append]; rfl
    have f11 : ∀ a i, a ≠ 91 → ¬ (a = p ∧ i = 1) → ¬ (a = p + 2 ∧ i = cs.length + ns.length) → sI s11 a i = sI s a i := by
      intro a i h1 h2 h3; subst e11; subst e9; rw [sI_w, if_neg h2, sI_w, if_neg h3, f4 _ _ h1]
    have f11J : ∀ a i, ¬ (a = 98 ∧ i = ns.length) → sJ s11 a i = sJ s a i := by
      intro a i h1; subst e11; subst e9; rw [sJ_wI, sJ_wI]; exact f4J a i h1
    have ps11 : psC s11 p (cs, rs, ns1, ws, gs) := by
      refine ⟨hps.1.fr (f11 _ _ (by omega) (by omega) (by omega)) (fun a i ha hi => f11 _ _ (by omega) (by omega) (by have hi : i < cs.length := hi; omega)) (fun i hi => f11J _ _ (by omega)), ⟨?_, fun k hk => ?_⟩, hps.2.2.1.fr (fun i hi => f11 _ _ (by omega) (by omega) (by omega)), hps.2.2.2.1.fr (fun i hi => f11J _ _ (by omega)) (fun i hi => f11 _ _ (by omega) (by omega) (by omega)), ?_, hps.2.2.2.2.2.fr (f11 _ _ (by omega) (by omega) (by omega)) (fun a i ha hi => f11 _ _ (by omega) (by omega) (by omega)) (fun i hi => f11J _ _ (by omega))⟩
      · show sI s11 p 1 = nI ns1.length; rw [lns1]; subst e11; rw [sI_w, if_pos ⟨rfl, rfl⟩]
      · have hk : k < ns1.length := hk
        show sJ s11 98 k = Int64.ofInt (cN 32 0 ns1[k]) ∧ sI s11 (p + 2) (cs.length + k) = nI (rs.length + ws.countP _)
        by_cases ck : k = ns.length
        · subst ck
          have e : ns1[ns.length] = tkN (tkJ T n j) := by simp [← hns1]
          rw [e]
          refine ⟨?_, ?_⟩
          · subst e11; subst e9; exact v4
          · subst e11; subst e9; rw [sI_w, if_neg (by omega), sI_w, if_pos ⟨rfl, rfl⟩, countP_all]
            intro w hw'; have := hwO w hw'; simp; exact this
        · have hk2 : k < ns.length := by omega
          have e : ns1[k] = ns[k] := by simp [← hns1, List.getElem_append_left hk2]
          rw [e, f11 _ _ (by omega) (by omega) (by omega), f11J _ _ (by omega)]
          exact hps.2.1.2 k hk2
      · have e : qL (cs, rs, ns1, ws, gs) = qL (cs, rs, ns, ws, gs) := rfl
        rw [e]
        exact hps.2.2.2.2.1.fr (f11 _ _ (by omega) (by omega) (by omega)) (fun i hi => f11 _ _ (by omega) (by omega) (by omega)) (fun i hi => f11 _ _ (by omega) (by omega) (by omega))
    clear e11 e9 f11 f11J
    intro P64 hP64
    generalize hR : pWays (tkJ T n) F ns.length 8 (cs, rs, ns1, ws, gs) (j + 1) = R at Hok Herr
    suffices hL : ∀ (r i j1 : Nat) (ps1 : PS) (s21 : yS), i + r = 8 → okJ T n j1 → frM (dC p) s s21 → (sI s21 91 2) = nI j1 → psC s21 p ps1 → pC ps1 = cs → pR ps1 = rs → pN ps1 = ns1 → (pW ps1).length = ws.length + i → (pG ps1).length ≤ 4 * ((pR ps1).length + (pW ps1).length) → R = pWays (tkJ T n) F ns.length r ps1 j1 → P64 (nI i) s21 from
      hL 8 0 (j + 1) _ s11 (by omega) o1 F11 a11 ps11 rfl rfl rfl rfl hgl hR.symm
    clear hR
    intro r
    have fin : ∀ (i j1 : Nat) (ps1 : PS) (s22 : yS), i ≤ 8 → okJ T n j1 → frM (dC p) s s22 → (sI s22 91 2) = nI j1 → psC s22 p ps1 → pC ps1 = cs → pR ps1 = rs → pN ps1 = ns1 → (pW ps1).length = ws.length + i → (pG ps1).length ≤ 4 * ((pR ps1).length + (pW ps1).length) → R = (if tkK (tkJ T n j1) = 3 then .ok (ps1, j1 + 1) else .error (pRef (tkJ T n j1))) →
        W_X4_take s22 (nI 3) (fun r23 s24 => ((¬ r23 = 0 → Q 1 s24) ∧ (r23 = 0 → W_X4_refuse s24 (fun r25 s26 => ((r25 = 0 → Q 0 s26) ∧ (¬ r25 = 0 → Q 1 s26)))))) := by
      intro i j1 ps1 s22 hi o1 F22 a22 p22 h1 h2 h3 h4 h5 hRe
      have A22 := h.c hp3 F22
      refine c_take A22 a22 o1 (by omega) (fun h3' => ⟨fun _ => ?_, fun hz => absurd hz (by decide)⟩) (fun h3' => ⟨fun hz => absurd rfl hz, fun _ => ?_⟩)
      · rw [if_pos h3'] at hRe
        exact Hok ps1 (j1 + 1) hRe (o1.s (by omega)) h1 h2 (by rw [h3]; exact lns1) (by rw [h3, h4]; omega) h5 _ (F22.wI (by unfold dC; omega)) (by rw [sI_w, if_pos ⟨rfl, rfl⟩]) (p22.at hp3)
      · rw [if_neg h3'] at hRe
        exact c_refuse A22 a22 o1 (fun s' F' a' e' => ⟨fun _ => Herr _ hRe s' ((F22.mono dC_E).trans (F'.mono dF_E)) e', fun hz => absurd rfl hz⟩)
    induction r with
    | zero =>
      intro i j1 ps1 s21 hi o1 F21 a21 p21 h1 h2 h3 h4 h5 hRe
      rw [pWays] at hRe
      apply hP64
      intro P107 hP107
      have hP := hP107 s21 (fin i j1 ps1 s21 (by omega) o1 F21 a21 p21 h1 h2 h3 h4 h5 hRe)
      refine ⟨fun _ => hP, fun hz => absurd ?_ hz⟩
      rw [nI_leU (by omega) (by omega)]; omega
    | succ r ih =>
      intro i j1 ps1 s21 hi o1 F21 a21 p21 h1 h2 h3 h4 h5 hRe
      rw [pWays] at hRe
      apply hP64
      intro P107 hP107
      rw [nI_leU (by omega) (by omega)]
      refine ⟨fun hz => absurd hz (by omega), fun _ => ?_⟩
      refine c_take (h.c hp3 F21) a21 o1 (by omega) (fun hk2 => ⟨fun hz => absurd hz (by decide), fun _ => ?_⟩) (fun hk2 => ⟨fun _ => hP107 _ (fin i j1 ps1 s21 (by omega) o1 F21 a21 p21 h1 h2 h3 h4 h5 (by rw [if_neg hk2] at hRe; exact hRe)), fun hz => absurd rfl hz⟩)
      rw [if_pos hk2] at hRe
      have F28 : frM (dC p) s (wI s21 91 2 (nI (j1 + 1))) := F21.wI (by unfold dC; omega)
      refine c_readWay (F := F) (c := ns.length) (h.c hp3 F28) (hp.fr F28) (by rw [sI_w, if_pos ⟨rfl, rfl⟩]) (o1.s (by omega)) (p21.at hp3) (by rw [h3]; exact lns1) (by rw [h1]; exact hc6) (by rw [h3]; omega) (by rw [h2]; exact hr) (by omega) h5 hF (fun ps' j' hpr o' g1 g2 g3 g4 g5 _ s30 F30 a30 p30 => ⟨fun _ => ?_, fun hz => absurd hz (by decide)⟩) (fun e he s30 F30 e30 => ⟨fun hz => absurd rfl hz, fun _ => ?_⟩)
      · intro x31 e31; subst e31; rw [nI_s]
        rw [hpr] at hRe
        exact ih (i + 1) j' ps' s30 (by omega) o' (F28.trans F30) a30 p30 (g1.trans h1) (g3.trans h2) (g2.trans h3) (by omega) g5 hRe
      · rw [he] at hRe
        exact Herr e hRe s30 ((F28.mono dC_E).trans F30) e30
/-- what the reading leaves: all but its own cells -/
def paF (p : Nat) (s s' : yS) : Prop := (∀ a i, ¬ dEr p a i → ¬ (a = 92 ∧ i = 3) → a ≠ 93 → a ≠ 94 → sI s' a i = sI s a i) ∧ (∀ a i, ¬ dEr p a i → a ≠ 95 → sJ s' a i = sJ s a i) ∧ ∀ a i, ¬ (a = 91 ∧ i = 4) → sR s' a i = sR s a i
theorem c_parse {Q : Int32 → yS → Prop} (h : txC s T n) (hw : wdC s) (hp : p = 3 ∨ p = 20) (hg0 : (sI s (p + 5)) 0 = 0)
    (Hok : ∀ ps, pTop (tkJ T n) 8193 n 32 ps0 0 = .ok ps → ∀ s', paF p s s' → polC s' p → psC s' p ps → (sI s' 91 0) = 0 → (sI s' 91 1) = -1 → Q 1 s')
    (Herr : ∀ e, pTop (tkJ T n) 8193 n 32 ps0 0 = .error e → ∀ s', paF p s s' → erC s' e → Q 0 s') : W_X4_parse s 1 8192 (nI n) p Q := by
  have hn := h.1
  have hkd : kd p = some (7, 0) := by rcases hp with rfl | rfl <;> rfl
  unfold W_X4_parse
  refine k8_read h hw (fun s1 J F1 C1 hJ1 hJ2 hJ3 => ?_)
  intro s2 e2
  have r2 : sR s2 91 4 = p + 1 := by subst e2; rw [sR_w, if_pos ⟨rfl, rfl⟩]
  refine ⟨p, r2, hkd, ?_⟩
  unfold W_X3_empty
  intro t1 f1 t2 f2 t3 f3 t4 f4 s5 e5 s6 e6 s7 e7
  have pol7 : polC s7 p := by subst e7; subst e6; subst e5; subst f4; subst f3; subst f2; subst f1; exact ⟨hp, r2⟩
  have f7 : ∀ a i, a ≠ 91 → ¬ (a = p ∧ (i = 0 ∨ i = 1 ∨ i = 4 ∨ i = 5)) → sI s7 a i = sI s1 a i := by
    intro a i h1 h2; subst e7; subst e6; subst e5; subst f4; subst f3; subst f2; subst f1
    rw [sI_w, if_neg (by omega), sI_w, if_neg (by omega), sI_w, if_neg (by omega), sI_w, if_neg (by omega), sI_w, if_neg (by omega), sI_w, if_neg (by omega), sI_w, if_neg (by omega)]; subst e2; rfl
  have f7J : ∀ a i, sJ s7 a i = sJ s1 a i := by intro a i; subst e7; subst e6; subst e5; subst f4; subst f3; subst f2; subst f1; subst e2; rfl
  have A7 : tkA s7 T n := ⟨hn, J, hJ3, ⟨(f7 _ _ (by omega) (by omega)).trans C1.1, fun i hi => by rw [f7 _ _ (by omega) (by omega), f7 _ _ (by omega) (by omega), f7J]; exact C1.2 i hi⟩, hJ2⟩
  have v7 : (sI s7 91 2) = nI 0 ∧ (sI s7 91 0) = 0 ∧ (sI s7 91 1) = -1 := by
    subst e7; subst e6; subst e5; subst f4; subst f3; subst f2; subst f1
    refine ⟨?_, ?_, ?_⟩ <;> simp [sI_w, nI_0U]
  have F7 : paF p s s7 := by
    refine ⟨fun a i h1 h2 h3 h4 => ?_, fun a i h1 h2 => ?_, fun a i h1 => ?_⟩
    · by_cases c : a = 91
      · subst c
        have : ¬ i ≤ 3 := fun hi => h1 (Or.inl ⟨rfl, hi⟩)
        subst e7; subst e6; subst e5; subst f4; subst f3; subst f2; subst f1
        rw [sI_w, if_neg (by omega), sI_w, if_neg (by omega), sI_w, if_neg (by omega), sI_w, if_neg (by omega), sI_w, if_neg (by omega), sI_w, if_neg (by omega), sI_w, if_neg (by omega)]; subst e2
        exact F1.1 _ _ h2 h3 h4
      · rw [f7 _ _ c (fun hh => h1 (by unfold dEr; omega))]; exact F1.1 _ _ h2 h3 h4
    · rw [f7J]; exact F1.2.1 _ _ h2
    · have : sR s7 a i = sR s2 a i := by subst e7; subst e6; subst e5; subst f4; subst f3; subst f2; subst f1; rfl
      rw [this]; subst e2; rw [sR_w, if_neg h1]; exact F1.2.2 _ _
  have p7 : psC s7 p ps0 := by
    refine ⟨⟨?_, fun k hk => absurd hk (by show ¬ k < 0; omega)⟩, ⟨?_, fun k hk => absurd hk (by show ¬ k < 0; omega)⟩, fun k hk => absurd hk (by show ¬ k < 0; omega), fun k hk => absurd hk (by show ¬ k < 0; omega), ⟨?_, ?_, fun k hk => absurd hk (by show ¬ k < 0; omega)⟩, ⟨?_, fun k hk => absurd hk (by show ¬ k < 0; omega)⟩⟩
    · subst e7; subst e6; subst e5; subst f4; subst f3; subst f2; subst f1
      rw [sI_w, if_neg (by omega), sI_w, if_neg (by omega), sI_w, if_neg (by omega), sI_w, if_neg (by omega), sI_w, if_neg (by omega), sI_w, if_neg (by omega), sI_w, if_pos ⟨rfl, rfl⟩]; rfl
    · subst e7; subst e6; subst e5; subst f4; subst f3; subst f2
      rw [sI_w, if_neg (by omega), sI_w, if_neg (by omega), sI_w, if_neg (by omega), sI_w, if_neg (by omega), sI_w, if_neg (by omega), sI_w, if_pos ⟨rfl, rfl⟩]; rfl
    · subst e7; subst e6; subst e5; subst f4; subst f3
      rw [sI_w, if_neg (by omega), sI_w, if_neg (by omega), sI_w, if_neg (by omega), sI_w, if_neg (by omega), sI_w, if_pos ⟨rfl, rfl⟩]; rfl
    · rw [f7 _ _ (by omega) (by omega), F1.1 _ _ (by omega) (by omega) (by omega)]; exact hg0
    · subst e7; subst e6; subst e5; subst f4
      rw [sI_w, if_neg (by omega), sI_w, if_neg (by omega), sI_w, if_neg (by omega), sI_w, if_pos ⟨rfl, rfl⟩]; rfl
  clear e7 e6 e5 f4 f3 f2 f1 e2 f7 f7J
  have FF : ∀ s', frM (dEr p) s7 s' → paF p s s' := by
    intro s' F'
    exact ⟨fun a i h1 h2 h3 h4 => (F'.1 _ _ h1).trans (F7.1 _ _ h1 h2 h3 h4), fun a i h1 h2 => (F'.2.1 _ _ h1).trans (F7.2.1 _ _ h1 h2), fun a i h1 => (F'.2.2 _ _).trans (F7.2.2 _ _ h1)⟩
  intro P39 hP39
  generalize hR : pTop (tkJ T n) 8193 n 32 ps0 0 = R at Hok Herr
  suffices hL : ∀ (f i j : Nat) (ps : PS) (s9 : yS), f + i = 32 → i = (pC ps).length + (pN ps).length → okJ T n j → frM (dC p) s7 s9 → (sI s9 91 2) = nI j → (sI s9 91 0) = 0 → (sI s9 91 1) = -1 → psC s9 p ps → lenP ps → wfI ps → (pG ps).length ≤ 4 * ((pR ps).length + (pW ps).length) → R = pTop (tkJ T n) 8193 n f ps j → P39 (nI i) s9 from
    hL 32 0 0 ps0 s7 rfl rfl (fun i hi => by omega) frM.rfl' v7.1 v7.2.1 v7.2.2 p7 lenP_0 wfI_0 (by show 0 ≤ _; omega) hR.symm
  intro f
  induction f with
  | zero => intro i j ps s9 hf hi _ _ _ _ _ _ hl; unfold lenP at hl; omega
  | succ f ih =>
    intro i j ps s9 hf hi oj F9 a9 z9 w9 p9 l9 wf9 hgl hRe
    have l9' := l9
    unfold lenP at l9'
    have A9 := A7.c hp F9
    have pol9 := pol7.fr F9
    have n9 : sI s9 p 1 = nI (pN ps).length := p9.2.1.1
    have c9 : sI s9 p 0 = nI (pC ps).length := p9.1.1
    rw [pTop] at hRe
    apply hP39
    intro P162 hP162
    rw [nI_ltU (by omega) (by omega)]
    refine ⟨fun hh => absurd hh (by omega), fun _ => ?_⟩
    refine c_isAt A9 a9 oj (k := 0) (by omega) (fun k0 => ⟨fun _ => hP162 ?_, fun hz => absurd hz (by decide)⟩) (fun k0 => ⟨fun hz => absurd rfl hz, fun _ => ?_⟩)
    · rw [if_pos k0] at hRe
      refine ⟨p, pol9.2, pol9.kd, ?_⟩
      have nz : 0 < nI (pN ps).length ↔ 0 < (pN ps).length := by rw [nI_0U, nI_ltU (by omega) (by omega)]
      rw [n9, nz]
      refine ⟨fun hh => ?_, fun hh => ?_⟩
      · rw [if_neg (by intro he; rw [he] at hh; simp at hh)] at hRe
        exact Hok ps hRe s9 (FF s9 (F9.mono dC_E)) pol9 p9 z9 w9
      · rw [if_pos (List.length_eq_zero_iff.mp (by omega))] at hRe
        unfold W_X4_refuseLate
        intro u1 g1 u2 g2
        refine ⟨fun _ => Herr _ hRe u2 (FF u2 (by subst g2; subst g1; exact ((F9.mono dC_E).wI (by unfold dEr; omega)).wI (by unfold dEr; omega))) ⟨?_, ?_, by simp, by simp⟩, fun hz => absurd rfl hz⟩
        · subst g2; subst g1; rw [sI_w, if_neg (by omega), sI_w, if_pos ⟨rfl, rfl⟩]
        · subst g2; rw [sI_w, if_pos ⟨rfl, rfl⟩]
    · rw [if_neg k0] at hRe
      refine ⟨p, pol9.2, pol9.kd, ?_⟩
      intro P74 hP74
      have rf : ∀ (jj : Nat) (s' : yS), frM (dC p) s7 s' → (sI s' 91 2) = nI jj → okJ T n jj → R = .error (pRef (tkJ T n jj)) → W_X4_refuse s' (fun r16 s17 => zb r16 ∧ Q r16 s17) := by
        intro jj s' F' a' o' he
        exact c_refuse (A7.c hp F') a' o' (fun s'' F'' a'' e'' => ⟨Or.inl rfl, Herr _ he s'' (FF s'' ((F'.mono dC_E).trans (F''.mono dF_E))) e''⟩)
      rw [n9, nI_inj (by omega) (by omega)]
      refine ⟨fun h24 => hP74 _ (rf j s9 F9 a9 oj (by rw [if_neg (by omega)] at hRe; exact hRe)), fun h24 => ?_⟩
      refine c_take A9 a9 oj (by omega) (fun h2 => ⟨fun _ => ?_, fun hz => absurd hz (by decide)⟩) (fun h2 => ⟨fun hz => absurd rfl hz, fun _ => hP74 _ (rf j s9 F9 a9 oj (by rw [if_neg (by omega)] at hRe; exact hRe))⟩)
      rw [if_pos ⟨h2, h24⟩] at hRe
      have o1 := oj.s (by omega)
      have F20 : frM (dC p) s7 (wI s9 91 2 (nI (j + 1))) := F9.wI (by unfold dC; omega)
      have a20 : (sI (wI s9 91 2 (nI (j + 1))) 91 2) = nI (j + 1) := by rw [sI_w, if_pos ⟨rfl, rfl⟩]
      have z20 : (sI (wI s9 91 2 (nI (j + 1))) 91 0) = 0 := by rw [sI_w, if_neg (by omega)]; exact z9
      have w20 : (sI (wI s9 91 2 (nI (j + 1))) 91 1) = -1 := by rw [sI_w, if_neg (by omega)]; exact w9
      have p20 := p9.at (v := nI (j + 1)) hp
      have n20 : sI (wI s9 91 2 (nI (j + 1))) p 1 = nI (pN ps).length := p20.2.1.1
      have c20 : sI (wI s9 91 2 (nI (j + 1))) p 0 = nI (pC ps).length := p20.1.1
      generalize wI s9 91 2 (nI (j + 1)) = s20 at *
      have A20 := A7.c hp F20
      have pol20 := pol7.fr F20
      refine ⟨p, pol20.2, pol20.kd, ?_⟩
      intro P106 hP106
      have main : ∀ y22 : Int32, (y22 = 0 ∨ y22 = 1) → (y22 = 1 ↔ pN ps = [] ∧ (pC ps).length < 6) → P106 y22 := by
        intro y22 hy hyq
        apply hP106
        have F21 : frM (dC p) s7 (wI s20 91 2 (nI (j + 1 + 1))) := F20.wI (by unfold dC; omega)
        refine c_takeWord A20 a20 o1 (w := 1) (by omega) (fun hw1 => ?_) (fun hw1 => ?_)
        · have k6 : tkK (tkJ T n (j + 1)) = 6 := by unfold isW at hw1; simp at hw1; exact hw1.1
          rw [if_pos hw1] at hRe
          intro P147 hP147
          refine ⟨fun hz => absurd hz (by decide), fun _ => ?_⟩
          refine c_readNode (F := 8193) (A7.c hp F21) (pol7.fr F21) (by rw [sI_w, if_pos ⟨rfl, rfl⟩]) (o1.s (by omega)) (p20.at hp) l9.1 (by omega) (by omega) l9.2.2.2 hgl wf9.2.2.2.1 (fun w hw' => (wf9.2.2.2.2.2.2.1 w hw').1) (by omega) (fun ps' j' hpn o' g1 g2 g3 g4 g5 s' F' a' p' => hP147 _ _ ⟨fun _ => ?_, fun hz => absurd hz (by decide)⟩) (fun e he s' F' e' => hP147 _ _ ⟨fun hz => absurd rfl hz, fun _ => ?_⟩)
          · intro x27 e27; subst e27; rw [nI_s]
            have hpn : pNode (tkJ T n) 8193 ps (j + 2) = .ok (ps', j') := hpn
            rw [hpn] at hRe
            have F22 := F21.trans F'
            have z' : (sI s' 91 0) = 0 := by rw [F'.1 _ _ (by unfold dC; omega), sI_w, if_neg (by omega)]; exact z20
            have w' : (sI s' 91 1) = -1 := by rw [F'.1 _ _ (by unfold dC; omega), sI_w, if_neg (by omega)]; exact w20
            exact ih (i + 1) j' ps' s' (by omega) (by rw [g1, g3]; omega) o' F22 a' z' w' p' ⟨by rw [g1]; exact l9.1, by rw [g1, g2]; exact l9.2.1, by omega, g4⟩ (pNode_ind wfI_W wfI_N hpn wf9).1 g5 hRe
          · have he : pNode (tkJ T n) 8193 ps (j + 2) = .error e := he
            rw [he] at hRe
            exact Herr e hRe s' (FF s' ((F21.mono dC_E).trans F')) e'
        · rw [if_neg (by simp [hw1])] at hRe
          intro P147 hP147
          refine ⟨fun _ => ?_, fun hz => absurd rfl hz⟩
          intro P143 hP143
          have rf2 : ¬ (isW (tkJ T n (j + 1)) 0 = true ∧ pN ps = [] ∧ (pC ps).length < 6) → P143 s20 := by
            intro hno
            rw [if_neg hno] at hRe
            apply hP143
            exact c_refuse A20 a20 o1 (fun s'' F'' a'' e'' => hP147 _ _ ⟨fun hz => absurd rfl hz, fun _ => Herr _ hRe s'' (FF s'' ((F20.mono dC_E).trans (F''.mono dF_E))) e''⟩)
          refine ⟨fun hz => rf2 (fun hh => by have := hyq.mpr hh.2; rw [hz] at this; exact absurd this (by decide)), fun hz => ?_⟩
          have hyy := hyq.mp (hy.resolve_left hz)
          refine c_takeWord A20 a20 o1 (w := 0) (by omega) (fun hw0 => ⟨fun hz => absurd hz (by decide), fun _ => ?_⟩) (fun hw0 => ⟨fun _ => rf2 (fun hh => by rw [hw0] at hh; exact absurd hh.1 (by decide)), fun hz => absurd rfl hz⟩)
          have k6 : tkK (tkJ T n (j + 1)) = 6 := by unfold isW at hw0; simp at hw0; exact hw0.1
          rw [if_pos ⟨hw0, hyy⟩] at hRe
          have hW := wf9.2.2.2.2.2.2.2.2.2.2 hyy.1
          refine c_readCounter (F := 8193) (A7.c hp F21) (pol7.fr F21) (by rw [sI_w, if_pos ⟨rfl, rfl⟩]) (o1.s (by omega)) (p20.at hp) hyy.1 hW hyy.2 l9.2.1 (by rw [hW] at hgl; exact hgl) (fun c hc => (wf9.2.2.1 c hc).1) (fun r hr => (wf9.2.2.2.2.2.1 r hr).1) (by omega) (fun ps' j' hpn o' g1 g2 g3 g4 g5 s' F' a' p' => hP147 _ _ ⟨fun _ => ?_, fun hz => absurd hz (by decide)⟩) (fun e he s' F' e' => hP147 _ _ ⟨fun hz => absurd rfl hz, fun _ => ?_⟩)
          · intro x27 e27; subst e27; rw [nI_s]
            have hpn : pCounter (tkJ T n) 8193 ps (j + 2) = .ok (ps', j') := hpn
            rw [hpn] at hRe
            have F22 := F21.trans F'
            have z' : (sI s' 91 0) = 0 := by rw [F'.1 _ _ (by unfold dC; omega), sI_w, if_neg (by omega)]; exact z20
            have w' : (sI s' 91 1) = -1 := by rw [F'.1 _ _ (by unfold dC; omega), sI_w, if_neg (by omega)]; exact w20
            exact ih (i + 1) j' ps' s' (by omega) (by rw [g1, g2]; rw [hyy.1] at hi; omega) o' F22 a' z' w' p' ⟨by omega, g4, by rw [g2]; exact Nat.zero_le _, by rw [g3]; exact Nat.zero_le _⟩ (pCounter_ind wfI_R wfI_C hpn hyy.1 wf9).1 (by rw [g3]; exact g5) hRe
          · have he : pCounter (tkJ T n) 8193 ps (j + 2) = .error e := he
            rw [he] at hRe
            exact Herr e hRe s' (FF s' ((F21.mono dC_E).trans F')) e'
      rw [n20]
      have nz : nI (pN ps).length = 0 ↔ pN ps = [] := by
        rw [nI_0U, nI_inj (by omega) (by omega)]
        constructor
        · intro hh; exact List.length_eq_zero_iff.mp hh
        · intro hh; rw [hh]; rfl
      rw [nz]
      refine ⟨fun hne => main 0 (Or.inl rfl) ⟨fun hh => absurd hh (by decide), fun hh => absurd hh.1 hne⟩, fun hem => ⟨p, pol20.2, pol20.kd, ?_⟩⟩
      rw [c20, nI_leU (by omega) (by omega)]
      exact ⟨fun h6 => main 0 (Or.inl rfl) ⟨fun hh => absurd hh (by decide), fun hh => by omega⟩, fun h6 => main 1 (Or.inr rfl) ⟨fun _ => ⟨hem, by omega⟩, fun _ => rfl⟩⟩
end

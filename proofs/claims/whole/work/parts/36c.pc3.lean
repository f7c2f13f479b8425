def ccl (c : Int) : Nat := if c = -1 then 16 else c.toNat
def clC (s : yS) (p : Nat) (ql : List (Int × Nat × Nat)) : Prop := (sI s p 4) = nI ql.length ∧ (sI s (p + 5)) 0 = 0 ∧ ∀ (q : Nat) (h : q < ql.length), (sI s (p + 3)) q = nI (ccl ql[q].1) ∧ (sI s (p + 5)) (q + 1) = nI (ql[q].2.1 + ql[q].2.2)
def dCl (p a i : Nat) : Prop := (a = 91 ∧ (i = 2 ∨ i = 3)) ∨ a = 101 ∨ a = 102 ∨ (a = p ∧ (i = 4 ∨ i = 5)) ∨ a = p + 3 ∨ (p + 5 ≤ a ∧ a ≤ p + 9 ∧ (a = p + 5 → i ≠ 0))
def dC (p a i : Nat) : Prop := (a = 91 ∧ (i = 2 ∨ i = 3)) ∨ (97 ≤ a ∧ a ≤ 102) ∨ (a = p ∧ (i ≤ 1 ∨ (4 ≤ i ∧ i ≤ 6))) ∨ (p + 1 ≤ a ∧ a ≤ p + 9 ∧ (a = p + 5 → i ≠ 0))
theorem dCl_E {p : Nat} : ∀ a i, dCl p a i → dEr p a i := fun a i h => by unfold dCl at h; unfold dEr; omega
theorem dC_E {p : Nat} : ∀ a i, dC p a i → dEr p a i := fun a i h => by unfold dC at h; unfold dEr; omega
theorem dT_Cl {p : Nat} : ∀ a i, dT a i → dCl p a i := fun a i h => Or.inl h
theorem dT_C {p : Nat} : ∀ a i, dT a i → dC p a i := fun a i h => Or.inl h
theorem dGd_Cl {p G : Nat} : ∀ a i, dGd p G a i → dCl p a i := fun a i h => by unfold dGd at h; unfold dCl; omega
theorem dCl_C {p : Nat} : ∀ a i, dCl p a i → dC p a i := fun a i h => by unfold dCl at h; unfold dC; omega
theorem tkA.cl {s s' : yS} {T : Nat → Nat} {n p : Nat} (h : tkA s T n) (hp : p = 3 ∨ p = 20) (k : frM (dCl p) s s') : tkA s' T n :=
  h.fr (fun i => k.1 _ _ (by unfold dCl; omega)) (fun i => k.1 _ _ (by unfold dCl; omega)) (fun i => k.1 _ _ (by unfold dCl; omega)) (fun i => k.2.1 _ _ (by unfold dCl; omega))
theorem tkA.c {s s' : yS} {T : Nat → Nat} {n p : Nat} (h : tkA s T n) (hp : p = 3 ∨ p = 20) (k : frM (dC p) s s') : tkA s' T n :=
  h.fr (fun i => k.1 _ _ (by unfold dC; omega)) (fun i => k.1 _ _ (by unfold dC; omega)) (fun i => k.1 _ _ (by unfold dC; omega)) (fun i => k.2.1 _ _ (by unfold dC; omega))
theorem clC.fr {s s' : yS} {p : Nat} {ql : List (Int × Nat × Nat)} (h : clC s p ql) (h0 : sI s' p 4 = sI s p 4) (h1 : ∀ i, i < ql.length → sI s' (p + 3) i = sI s (p + 3) i) (h2 : ∀ i, i ≤ ql.length → sI s' (p + 5) i = sI s (p + 5) i) : clC s' p ql := by
  refine ⟨h0.trans h.1, (h2 0 (by omega)).trans h.2.1, fun q hq => ?_⟩
  rw [h1 q hq, h2 (q + 1) (by omega)]; exact h.2.2 q hq
section
variable {T : Nat → Nat} {n : Nat} {s : yS} {j p : Nat}
theorem c_readClause {F : Nat} {gs : List Gd} {ql : List (Int × Nat × Nat)} {Q : Int32 → yS → Prop} (h : tkA s T n) (hp : polC s p) (ha : (sI s 91 2) = nI j) (o : okJ T n j) (hq : clC s p ql) (hql : ql.length < 216) (hg : gdC s p gs) (hgl : gs.length + 4 ≤ 864) (hF : n < F)
    (Hok : ∀ q gs' j3, pCall (tkJ T n) j = .ok (q, j + 1) → pGuards (tkJ T n) F 4 gs (j + 1) = .ok (gs', j3) → okJ T n j3 → ∀ m, m ≤ 4 → gs'.length = gs.length + m → ∀ s', frM (dCl p) s s' → (sI s' 91 2) = nI j3 → gdC s' p gs' → clC s' p (ql ++ [(q, gs.length, m)]) → Q 1 s')
    (Herr : ∀ e, (pCall (tkJ T n) j = .error e ∨ ∃ q, pCall (tkJ T n) j = .ok (q, j + 1) ∧ pGuards (tkJ T n) F 4 gs (j + 1) = .error e) → ∀ s', frM (dEr p) s s' → erC s' e → Q 0 s') : W_X4_readClause s Q := by
  have hp3 := hp.1
  have hn := h.1
  unfold W_X4_readClause
  -- behind the call
  have main : ∀ (q : Int), pCall (tkJ T n) j = .ok (q, j + 1) → -1 ≤ q → q ≤ 15 → ∀ (s3 : yS), frM dT s s3 → (sI s3 91 2) = nI (j + 1) → okJ T n (j + 1) → ∀ y6 : Int32, y6 = nI (ccl q) →
      (vp_in (sI s3 p 4) 216 ∧ ∀ s8 : yS, s8 = wI s3 (p + 3) (ix (sI s3 p 4)) y6 → 
       ∀ P56 : Int32 → yS → Prop, (∀ (x9 : Int32) (s10 : yS), (∀ P84 : yS → Prop, (∀ (s11 : yS), (∃ p12 : Nat, sR s11 91 4 = p12 + 1 ∧ kd p12 = some (7, 0) ∧ 
         ∀ s13 : yS, s13 = wI s11 p12 4 ((sI s11 p12 4) + 1) → 
         ∃ p14 : Nat, sR s13 91 4 = p14 + 1 ∧ kd p14 = some (7, 0) ∧ 
         ∃ p15 : Nat, sR s13 91 4 = p15 + 1 ∧ kd p15 = some (7, 0) ∧ 
         ∃ p16 : Nat, sR s13 91 4 = p16 + 1 ∧ kd p16 = some (7, 0) ∧ 
         vp_in (sI s13 p15 4) 217 ∧ ∀ s18 : yS, s18 = wI s13 (p14 + 5) (ix (sI s13 p15 4)) (sI s13 p16 5) → 
         Q 1 s18) → P84 s11) → 
        (((nI 4) ≤ x9 → P84 s10)
        ∧ (¬ (nI 4) ≤ x9 → W_X4_take s10 (nI 2) 
         (fun r19 s20 => ((r19 = 0 → P84 s20)
         ∧ (¬ r19 = 0 → W_X4_readGuard s20 
          (fun r21 s22 => ((¬ r21 = 0 → ∀ x23 : Int32, x23 = (x9 + 1) → 
           P56 x23 s22)
          ∧ (r21 = 0 → Q 0 s22))))))))) → P56 x9 s10) → 
       P56 0 s8) := by
    intro q hpc hq1 hq2 s3 F3 a3 o3 y6 hy6
    have q3 : sI s3 p 4 = nI ql.length := by rw [F3.1 _ _ (by unfold dT; omega)]; exact hq.1
    rw [q3, nI_ix (n := ql.length) (by omega)]
    refine ⟨nI_inU hql (by omega), ?_⟩
    intro s8 e8 P56 hP56
    have F8 : frM (dCl p) s s8 := by subst e8; exact (F3.mono dT_Cl).wI (by unfold dCl; omega)
    have v8 : (sI s8 (p + 3)) ql.length = nI (ccl q) := by subst e8; rw [sI_w, if_pos ⟨rfl, rfl⟩]; exact hy6
    have a8 : (sI s8 91 2) = nI (j + 1) := by subst e8; rw [sI_w, if_neg (by omega)]; exact a3
    have c8 : clC s8 p ql := hq.fr (by subst e8; rw [sI_w, if_neg (by omega), F3.1 _ _ (by unfold dT; omega)]) (fun i hi => by subst e8; rw [sI_w, if_neg (by omega), F3.1 _ _ (by unfold dT; omega)]) (fun i hi => by subst e8; rw [sI_w, if_neg (by omega), F3.1 _ _ (by unfold dT; omega)])
    have g8 : gdC s8 p gs := hg.fr (by subst e8; rw [sI_w, if_neg (by omega), F3.1 _ _ (by unfold dT; omega)]) (fun a i ha hi => by subst e8; rw [sI_w, if_neg (by omega), F3.1 _ _ (by unfold dT; omega)]) (fun i hi => by subst e8; show sJ s3 101 i = _; rw [F3.2.1 _ _ (by unfold dT; omega)])
    clear e8
    generalize hR : pGuards (tkJ T n) F 4 gs (j + 1) = R at Hok Herr
    suffices hL : ∀ (r i j1 : Nat) (gs1 : List Gd) (s10 : yS), i + r = 4 → okJ T n j1 → frM (dCl p) s s10 → (sI s10 91 2) = nI j1 → gdC s10 p gs1 → gs1.length = gs.length + i → clC s10 p ql → (sI s10 (p + 3)) ql.length = nI (ccl q) → R = pGuards (tkJ T n) F r gs1 j1 → P56 (nI i) s10 from
      hL 4 0 (j + 1) gs s8 (by omega) o3 F8 a8 g8 rfl c8 v8 hR.symm
    clear hR
    intro r
    -- the clause's end
    have fin : ∀ (i j1 : Nat) (gs1 : List Gd) (s11 : yS), i ≤ 4 → okJ T n j1 → frM (dCl p) s s11 → (sI s11 91 2) = nI j1 → gdC s11 p gs1 → gs1.length = gs.length + i → clC s11 p ql → (sI s11 (p + 3)) ql.length = nI (ccl q) → R = .ok (gs1, j1) →
        (∃ p12 : Nat, sR s11 91 4 = p12 + 1 ∧ kd p12 = some (7, 0) ∧ 
         ∀ s13 : yS, s13 = wI s11 p12 4 ((sI s11 p12 4) + 1) → 
         ∃ p14 : Nat, sR s13 91 4 = p14 + 1 ∧ kd p14 = some (7, 0) ∧ 
         ∃ p15 : Nat, sR s13 91 4 = p15 + 1 ∧ kd p15 = some (7, 0) ∧ 
         ∃ p16 : Nat, sR s13 91 4 = p16 + 1 ∧ kd p16 = some (7, 0) ∧ 
         vp_in (sI s13 p15 4) 217 ∧ ∀ s18 : yS, s18 = wI s13 (p14 + 5) (ix (sI s13 p15 4)) (sI s13 p16 5) → 
         Q 1 s18) := by
      intro i j1 gs1 s11 hi o1 F11 a11 g11 hl11 c11 v11 hRe
      have hp11 := hp.fr F11
      refine ⟨p, hp11.2, hp11.kd, ?_⟩
      intro s13 e13
      rw [c11.1, nI_s] at e13
      have hp13 : polC s13 p := by subst e13; exact hp11
      refine ⟨p, hp13.2, hp13.kd, p, hp13.2, hp13.kd, p, hp13.2, hp13.kd, ?_⟩
      have q13 : sI s13 p 4 = nI (ql.length + 1) := by subst e13; rw [sI_w, if_pos ⟨rfl, rfl⟩]
      have g13 : sI s13 p 5 = nI gs1.length := by subst e13; rw [sI_w, if_neg (by omega)]; exact g11.1
      rw [q13, g13, nI_ix (n := ql.length + 1) (by omega)]
      refine ⟨nI_inU (by omega) (by omega), ?_⟩
      intro s18 e18
      refine Hok q gs1 j1 hpc hRe o1 i hi hl11 s18 ?_ ?_ ?_ ⟨?_, ?_, fun k hk => ?_⟩
      · subst e18; subst e13; exact (F11.wI (by unfold dCl; omega)).wI (by unfold dCl; omega)
      · subst e18; subst e13; rw [sI_w, if_neg (by omega), sI_w, if_neg (by omega)]; exact a11
      · exact g11.fr (by subst e18; subst e13; rw [sI_w, if_neg (by omega), sI_w, if_neg (by omega)]) (fun a i ha hi => by subst e18; subst e13; rw [sI_w, if_neg (by omega), sI_w, if_neg (by omega)]) (fun i hi => by subst e18; subst e13; rfl)
      · subst e18; rw [sI_w, if_neg (by omega), q13, List.length_append]; rfl
      · subst e18; subst e13; rw [sI_w, if_neg (by omega), sI_w, if_neg (by omega)]; exact c11.2.1
      · rw [List.length_append] at hk
        have hk : k < ql.length + 1 := hk
        by_cases ck : k = ql.length
        · subst ck
          rw [List.getElem_append_right (by omega)]
          simp only [Nat.sub_self, List.getElem_cons_zero]
          subst e18; subst e13
          refine ⟨?_, ?_⟩
          · rw [sI_w, if_neg (by omega), sI_w, if_neg (by omega)]; exact v11
          · rw [sI_w, if_pos ⟨rfl, rfl⟩, hl11]
        · rw [List.getElem_append_left (by omega)]
          subst e18; subst e13
          rw [sI_w, if_neg (by omega), sI_w, if_neg (by omega), sI_w, if_neg (by omega), sI_w, if_neg (by omega)]
          exact c11.2.2 k (by omega)
    induction r with
    | zero =>
      intro i j1 gs1 s10 hi o1 F10 a10 g10 hl10 c10 v10 hRe
      have hRe : R = .ok (gs1, j1) := hRe
      apply hP56
      intro P84 hP84
      have hP := hP84 s10 (fin i j1 gs1 s10 (by omega) o1 F10 a10 g10 hl10 c10 v10 hRe)
      refine ⟨fun _ => hP, fun hh => absurd ?_ hh⟩
      rw [nI_leU (by omega) (by omega)]; omega
    | succ r ih =>
      intro i j1 gs1 s10 hi o1 F10 a10 g10 hl10 c10 v10 hRe
      rw [pGuards] at hRe
      apply hP56
      intro P84 hP84
      rw [nI_leU (by omega) (by omega)]
      refine ⟨fun hh => absurd hh (by omega), fun _ => ?_⟩
      have A10 := h.cl hp3 F10
      refine c_take A10 a10 o1 (by omega) (fun h2 => ⟨fun hz => absurd hz (by decide), fun _ => ?_⟩) (fun h2 => ⟨fun _ => hP84 _ (fin i j1 gs1 s10 (by omega) o1 F10 a10 g10 hl10 c10 v10 ?_), fun hz => absurd rfl hz⟩)
      · rw [if_pos h2] at hRe
        have F20 : frM (dCl p) s (wI s10 91 2 (nI (j1 + 1))) := F10.wI (by unfold dCl; omega)
        have g20 : gdC (wI s10 91 2 (nI (j1 + 1))) p gs1 := g10.fr (by rw [sI_w, if_neg (by omega)]) (fun a i ha hi => by rw [sI_w, if_neg (by omega)]) (fun i hi => rfl)
        refine c_readGuard (F := F) (h.cl hp3 F20) (hp.fr F20) (by rw [sI_w, if_pos ⟨rfl, rfl⟩]) (o1.s (by omega)) g20 (by omega) hF (fun g j' hg' o' s22 F22 a22 g22 => ⟨fun _ => ?_, fun hz => absurd hz (by decide)⟩) (fun e he s22 F22 e22 => ⟨fun hz => absurd rfl hz, fun _ => ?_⟩)
        · intro x23 e23; subst e23; rw [nI_s]
          rw [hg'] at hRe
          refine ih (i + 1) j' (gs1 ++ [g]) s22 (by omega) o' (F20.trans (F22.mono dGd_Cl)) a22 g22 (by simp; omega) ?_ ?_ hRe
          · exact c10.fr (by rw [F22.1 _ _ (by unfold dGd; omega), sI_w, if_neg (by omega)]) (fun i hi => by rw [F22.1 _ _ (by unfold dGd; omega), sI_w, if_neg (by omega)]) (fun i hi => by rw [F22.1 _ _ (by unfold dGd; omega), sI_w, if_neg (by omega)])
          · rw [F22.1 _ _ (by unfold dGd; omega), sI_w, if_neg (by omega)]; exact v10
        · rw [he] at hRe
          exact Herr e (Or.inr ⟨q, hpc, hRe⟩) s22 ((F20.mono dCl_E).trans F22) e22
      · rw [if_neg h2] at hRe; exact hRe
  refine c_takeWord h ha o (by omega) (fun hw => ?_) (fun hw => ?_)
  · have h6 : tkK (tkJ T n j) = 6 := by unfold isW at hw; simp at hw; exact hw.1
    intro P26 hP26
    refine ⟨fun _ => hP26 _ ?_, fun hz => absurd hz (by decide)⟩
    have F3 : frM dT s (wI s 91 2 (nI (j + 1))) := frM.rfl'.wI ⟨rfl, by omega⟩
    have hp3' := hp.fr F3
    refine ⟨p, hp3'.2, hp3'.kd, p, hp3'.2, hp3'.kd, ?_⟩
    intro P53 hP53
    refine ⟨fun hz => absurd hz (by decide), fun _ => hP53 _ (main (-1) ?_ (by omega) (by omega) _ F3 (by rw [sI_w, if_pos ⟨rfl, rfl⟩]) (o.s (by omega)) _ rfl)⟩
    unfold pCall; rw [if_pos hw]
  · intro P26 hP26
    refine ⟨fun hz => absurd rfl hz, fun _ => ?_⟩
    refine c_takeNumber h ha o (fun h4 hl hh s25 F25 a25 t25 => ⟨fun _ => hP26 _ ?_, fun hz => absurd hz (by decide)⟩) (fun hn4 s25 F25 a25 => ⟨fun hz => absurd rfl hz, fun _ => ?_⟩)
    · have hl : 0 ≤ tkV (tkJ T n j) := hl
      have hh : tkV (tkJ T n j) ≤ 15 := hh
      have hp3' := hp.fr F25
      refine ⟨p, hp3'.2, hp3'.kd, p, hp3'.2, hp3'.kd, ?_⟩
      intro P53 hP53
      refine ⟨fun _ => hP53 _ (main (tkV (tkJ T n j)) ?_ (by omega) (by omega) _ F25 a25 (o.s (by omega)) _ ?_), fun hz => absurd rfl hz⟩
      · unfold pCall; rw [if_neg (by simp [hw]), if_pos ⟨h4, hl, hh⟩]
      · rw [t25]; unfold ccl; rw [if_neg (by omega), ← oI_nat]; congr 1; omega
    · refine c_refuse (h.dT F25) a25 o (fun s' F' a' e' => ⟨Or.inl rfl, Herr _ (Or.inl ?_) s' ((F25.mono dT_E).trans (F'.mono dF_E)) e'⟩)
      unfold pCall; rw [if_neg (by simp [hw]), if_neg]; intro h4; exact hn4 h4
/-! ===== counters, nodes, rules, ways ===== -/
def csC (s : yS) (p : Nat) (cs : List (List Nat × Nat)) (rs : List Rl) : Prop := (sI s p 0) = nI cs.length ∧ ∀ (k : Nat) (h : k < cs.length), (sI s (p + 1)) k = nI cs[k].2 ∧ (sJ s 97) k = Int64.ofInt (cN 32 0 cs[k].1) ∧ (sI s (p + 2)) k = nI (rs.countP (fun r => decide (rO r < k)))
def nsC (s : yS) (p c : Nat) (r : Nat) (ns : List (List Nat)) (ws : List Wy) : Prop := (sI s p 1) = nI ns.length ∧ ∀ (k : Nat) (h : k < ns.length), (sJ s 98) k = Int64.ofInt (cN 32 0 ns[k]) ∧ (sI s (p + 2)) (c + k) = nI (r + ws.countP (fun w => decide (wO w < k)))
def rlC (s : yS) (p : Nat) (rs : List Rl) : Prop := ∀ (k : Nat) (h : k < rs.length), (sI s (p + 4)) k = bI (rU rs[k])
def wyC (s : yS) (r : Nat) (ws : List Wy) : Prop := ∀ (k : Nat) (h : k < ws.length), (sJ s 99) (r + k) = Int64.ofInt (cN 32 0 (wN ws[k])) ∧ (sI s 100) (r + k) = nI (wP ws[k])
def psC (s : yS) (p : Nat) (ps : PS) : Prop := csC s p (pC ps) (pR ps) ∧ nsC s p (pC ps).length (pR ps).length (pN ps) (pW ps) ∧ rlC s p (pR ps) ∧ wyC s (pR ps).length (pW ps) ∧ clC s p (qL ps) ∧ gdC s p (pG ps)
theorem csC.fr {s s' : yS} {p : Nat} {cs : List (List Nat × Nat)} {rs : List Rl} (h : csC s p cs rs) (h0 : sI s' p 0 = sI s p 0) (h1 : ∀ a i, (a = p + 1 ∨ a = p + 2) → i < cs.length → sI s' a i = sI s a i) (h2 : ∀ i, i < cs.length → sJ s' 97 i = sJ s 97 i) : csC s' p cs rs :=
  ⟨h0.trans h.1, fun k hk => by rw [h1 _ k (Or.inl rfl) hk, h1 _ k (Or.inr rfl) hk, h2 k hk]; exact h.2 k hk⟩
theorem nsC.fr {s s' : yS} {p c r : Nat} {ns : List (List Nat)} {ws : List Wy} (h : nsC s p c r ns ws) (h0 : sI s' p 1 = sI s p 1) (h1 : ∀ i, i < ns.length → sI s' (p + 2) (c + i) = sI s (p + 2) (c + i)) (h2 : ∀ i, i < ns.length → sJ s' 98 i = sJ s 98 i) : nsC s' p c r ns ws :=
  ⟨h0.trans h.1, fun k hk => by rw [h1 k hk, h2 k hk]; exact h.2 k hk⟩
theorem rlC.fr {s s' : yS} {p : Nat} {rs : List Rl} (h : rlC s p rs) (h1 : ∀ i, i < rs.length → sI s' (p + 4) i = sI s (p + 4) i) : rlC s' p rs := fun k hk => (h1 k hk).trans (h k hk)
theorem wyC.fr {s s' : yS} {r : Nat} {ws : List Wy} (h : wyC s r ws) (h1 : ∀ i, i < ws.length → sJ s' 99 (r + i) = sJ s 99 (r + i)) (h2 : ∀ i, i < ws.length → sI s' 100 (r + i) = sI s 100 (r + i)) : wyC s' r ws := fun k hk => by rw [h1 k hk, h2 k hk]; exact h k hk
theorem countP_snoc {α : Type} {f : α → Bool} {l : List α} {a : α} (h : f a = false) : (l ++ [a]).countP f = l.countP f := by
  rw [List.countP_append]; simp [h]
theorem c_readRule {F c : Nat} {ps : PS} {Q : Int32 → yS → Prop} (h : tkA s T n) (hp : polC s p) (ha : (sI s 91 2) = nI j) (o : okJ T n j) (hps : psC s p ps) (hN : pN ps = []) (hW : pW ps = []) (hc : (pC ps).length = c + 1) (hc6 : (pC ps).length ≤ 6) (hr : (pR ps).length < 24) (hgl : (pG ps).length ≤ 4 * (pR ps).length) (hF : n < F)
    (Hok : ∀ ps' j', pRule (tkJ T n) F c ps j = .ok (ps', j') → okJ T n j' → pC ps' = pC ps → pN ps' = [] → pW ps' = [] → (pR ps').length = (pR ps).length + 1 → (pG ps').length ≤ 4 * (pR ps').length → ∀ s', frM (dC p) s s' → (sI s' 91 2) = nI j' → psC s' p ps' → Q 1 s')
    (Herr : ∀ e, pRule (tkJ T n) F c ps j = .error e → ∀ s', frM (dEr p) s s' → erC s' e → Q 0 s') : W_X4_readRule s Q := by
  have hp3 := hp.1
  obtain ⟨cs, rs, ns, ws, gs⟩ := ps
  have hN : ns = [] := hN
  have hW : ws = [] := hW
  subst hN; subst hW
  have hc : cs.length = c + 1 := hc
  have hc6 : cs.length ≤ 6 := hc6
  have hr : rs.length < 24 := hr
  have hgl : gs.length ≤ 4 * rs.length := hgl
  have hql : qL (cs, rs, [], [], gs) = rs.map (fun r => (rC r, rF r, rM r)) := by unfold qL pR pW; simp
  have hqll : (rs.map (fun r => (rC r, rF r, rM r))).length = rs.length := List.length_map ..
  unfold W_X4_readRule
  -- behind the word
  have main : ∀ (up : Bool), (isW (tkJ T n j) 2 = true ∨ isW (tkJ T n j) 3 = true) → isW (tkJ T n j) 2 = up → tkK (tkJ T n j) = 6 → ∀ s3 : yS, s3 = wI s 91 2 (nI (j + 1)) →
      (vp_in (sI s3 p 4) 216 ∧ ∀ s8 : yS, s8 = wI s3 (p + 4) (ix (sI s3 p 4)) (bI up) → 
       W_X4_readClause s8 
       (fun r9 s10 => ((r9 = 0 → Q 0 s10)
       ∧ (¬ r9 = 0 → W_X4_take s10 (nI 3) 
        (fun r11 s12 => ((¬ r11 = 0 → Q 1 s12)
        ∧ (r11 = 0 → W_X4_refuse s12 
         (fun r13 s14 => ((r13 = 0 → Q 0 s14)
         ∧ (¬ r13 = 0 → Q 1 s14)))))))))) := by
    intro up hw hup k6 s3 e3
    have hpr : pRule (tkJ T n) F c (cs, rs, [], [], gs) j = (match pCall (tkJ T n) (j + 1) with
      | .error e => .error e
      | .ok (q, j2) =>
        match pGuards (tkJ T n) F 4 gs j2 with
        | .error e => .error e
        | .ok (gs', j3) =>
          if tkK (tkJ T n j3) = 3 then .ok ((cs, rs ++ [(c, isW (tkJ T n j) 2, q, gs.length, gs'.length - gs.length)], [], [], gs'), j3 + 1)
          else .error (pRef (tkJ T n j3))) := by unfold pRule; exact if_pos hw
    rw [hpr] at Hok Herr
    clear hpr
    have F3 : frM (dC p) s s3 := by subst e3; exact frM.rfl'.wI (by unfold dC; omega)
    have q3 : sI s3 p 4 = nI rs.length := by
      subst e3; rw [sI_w, if_neg (by omega)]
      have := hps.2.2.2.2.1.1
      rw [hql, hqll] at this; exact this
    rw [q3, nI_ix (n := rs.length) (by omega)]
    refine ⟨nI_inU (by omega) (by omega), ?_⟩
    intro s8 e8
    have F8 : frM (dC p) s s8 := by subst e8; exact F3.wI (by unfold dC; omega)
    have v8 : (sI s8 (p + 4)) rs.length = bI up := by subst e8; rw [sI_w, if_pos ⟨rfl, rfl⟩]
    have a8 : (sI s8 91 2) = nI (j + 1) := by subst e8; subst e3; rw [sI_w, if_neg (by omega), sI_w, if_pos ⟨rfl, rfl⟩]
    have f8 : ∀ a i, a ≠ 91 → ¬ (a = p + 4 ∧ i = rs.length) → sI s8 a i = sI s a i := by
      intro a i h1 h2; subst e8; subst e3; rw [sI_w, if_neg h2, sI_w, if_neg (by omega)]
    have f8J : ∀ a i, sJ s8 a i = sJ s a i := by intro a i; subst e8; subst e3; rfl
    clear e8 e3
    have c8 : clC s8 p (rs.map (fun r => (rC r, rF r, rM r))) := by
      have := hps.2.2.2.2.1
      rw [hql] at this
      exact this.fr (f8 _ _ (by omega) (by omega)) (fun i hi => f8 _ _ (by omega) (by omega)) (fun i hi => f8 _ _ (by omega) (by omega))
    have g8 : gdC s8 p gs := hps.2.2.2.2.2.fr (f8 _ _ (by omega) (by omega)) (fun a i ha hi => f8 _ _ (by omega) (by omega)) (fun i hi => f8J _ _)
    refine c_readClause (F := F) (h.c hp3 F8) (hp.fr F8) a8 (o.s (by omega)) c8 (by omega) g8 (by omega) hF (fun q gs' j3 hq hgq o3 m hm hgl' s10 F10 a10 g10 c10 => ⟨fun hz => absurd hz (by decide), fun _ => ?_⟩) (fun e he s10 F10 e10 => ⟨fun _ => ?_, fun hz => absurd rfl hz⟩)
    · rw [hq] at Hok Herr
      dsimp only at Hok Herr
      rw [hgq] at Hok Herr
      dsimp only at Hok Herr
      have FC10 := F8.trans (F10.mono dCl_C)
      refine c_take (h.c hp3 FC10) a10 o3 (by omega) (fun h3 => ⟨fun _ => ?_, fun hz => absurd hz (by decide)⟩) (fun h3 => ⟨fun hz => absurd rfl hz, fun _ => ?_⟩)
      · rw [if_pos h3] at Hok
        have hsub : gs'.length - gs.length = m := by omega
        rw [hsub, hup] at Hok
        refine Hok _ _ rfl (o3.s (by omega)) rfl rfl rfl ?_ ?_ _ (FC10.wI (by unfold dC; omega)) (by rw [sI_w, if_pos ⟨rfl, rfl⟩]) ⟨?_, ?_, ?_, ?_, ?_, ?_⟩
        · show (rs ++ [_]).length = rs.length + 1; rw [List.length_append]; rfl
        · show gs'.length ≤ 4 * (rs ++ [_]).length; rw [List.length_append]; show _ ≤ 4 * (rs.length + 1); omega
        · -- counters
          have h1 : csC s8 p cs rs := hps.1.fr (f8 _ _ (by omega) (by omega)) (fun a i ha hi => f8 _ _ (by omega) (by omega)) (fun i hi => f8J _ _)
          have h2 : csC (wI s10 91 2 (nI (j3 + 1))) p cs rs := h1.fr (by rw [sI_w, if_neg (by omega), F10.1 _ _ (by unfold dCl; omega)]) (fun a i ha hi => by rw [sI_w, if_neg (by omega), F10.1 _ _ (by unfold dCl; omega)]) (fun i hi => by rw [sJ_wI, F10.2.1 _ _ (by unfold dCl; omega)])
          refine ⟨h2.1, fun k hk => ?_⟩
          have := h2.2 k hk
          refine ⟨this.1, this.2.1, ?_⟩
          show _ = nI ((rs ++ [(c, up, q, gs.length, m)]).countP _)
          rw [countP_snoc]; exact this.2.2
          have hk : k < cs.length := hk
          show decide (c < k) = false
          simp; omega
        · refine ⟨?_, fun k hk => absurd hk (by show ¬ k < 0; omega)⟩
          rw [sI_w, if_neg (by omega), F10.1 _ _ (by unfold dCl; omega), f8 _ _ (by omega) (by omega)]; exact hps.2.1.1
        · show rlC _ p (rs ++ [(c, up, q, gs.length, m)])
          intro k hk
          have hk2 : k < rs.length + 1 := by rw [List.length_append] at hk; exact hk
          rw [sI_w, if_neg (by omega), F10.1 _ _ (by unfold dCl; omega)]
          by_cases ck : k = rs.length
          · subst ck
            rw [List.getElem_append_right (by omega)]
            simp only [Nat.sub_self, List.getElem_cons_zero]
            exact v8
          · rw [List.getElem_append_left (by omega), f8 _ _ (by omega) (by omega)]
            exact hps.2.2.1 k (by show k < rs.length; omega)
        · intro k hk; exact absurd hk (by show ¬ k < 0; omega)
        · have e : qL (cs, rs ++ [(c, up, q, gs.length, m)], [], [], gs') = rs.map (fun r => (rC r, rF r, rM r)) ++ [(q, gs.length, m)] := by unfold qL pR pW rC rF rM; simp
          rw [e]
          exact c10.fr (by rw [sI_w, if_neg (by omega)]) (fun i hi => by rw [sI_w, if_neg (by omega)]) (fun i hi => by rw [sI_w, if_neg (by omega)])
        · exact g10.fr (by rw [sI_w, if_neg (by omega)]) (fun a i ha hi => by rw [sI_w, if_neg (by omega)]) (fun i hi => rfl)
      · rw [if_neg h3] at Herr
        exact c_refuse (h.c hp3 FC10) a10 o3 (fun s' F' a' e' => ⟨fun _ => Herr _ rfl s' ((FC10.mono dC_E).trans (F'.mono dF_E)) e', fun hz => absurd rfl hz⟩)
    · rcases he with he | ⟨q, hq, hge⟩
      · rw [he] at Herr; exact Herr e rfl s10 ((F8.mono dC_E).trans F10) e10
      · rw [hq] at Herr; dsimp only at Herr; rw [hge] at Herr; exact Herr e rfl s10 ((F8.mono dC_E).trans F10) e10
  have F3 : frM (dC p) s (wI s 91 2 (nI (j + 1))) := frM.rfl'.wI (by unfold dC; omega)
  have hp3' := hp.fr F3
  refine c_takeWord h ha o (by omega) (fun hw => ?_) (fun hw => ?_)
  · have k6 : tkK (tkJ T n j) = 6 := by unfold isW at hw; simp at hw; exact hw.1
    intro P23 hP23
    refine ⟨fun _ => hP23 _ ?_, fun hz => absurd hz (by decide)⟩
    refine ⟨p, hp3'.2, hp3'.kd, p, hp3'.2, hp3'.kd, ?_⟩
    intro P46 hP46
    exact ⟨fun hz => absurd hz (by decide), fun _ => hP46 _ (main true (Or.inl hw) hw k6 _ rfl)⟩
  · intro P23 hP23
    refine ⟨fun hz => absurd rfl hz, fun _ => ?_⟩
    refine c_takeWord h ha o (by omega) (fun hw3 => ⟨fun _ => hP23 _ ?_, fun hz => absurd hz (by decide)⟩) (fun hw3 => ⟨fun hz => absurd rfl hz, fun _ => ?_⟩)
    · have k6 : tkK (tkJ T n j) = 6 := by unfold isW at hw3; simp at hw3; exact hw3.1
      refine ⟨p, hp3'.2, hp3'.kd, p, hp3'.2, hp3'.kd, ?_⟩
      intro P46 hP46
      exact ⟨fun _ => hP46 _ (main false (Or.inr hw3) hw k6 _ rfl), fun hz => absurd rfl hz⟩
    · refine c_refuse h ha o (fun s' F' a' e' => ⟨Or.inl rfl, Herr _ ?_ s' (F'.mono dF_E) e'⟩)
      unfold pRule; rw [if_neg (by simp [hw, hw3])]
end

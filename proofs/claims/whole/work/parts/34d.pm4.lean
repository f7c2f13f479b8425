section
variable {T : Nat → Nat} {n : Nat}
theorem lkG_ext {gs x : List Gd} {c : Int} {k : Nat} (hk : k < gs.length) : lkG (gs ++ x) c k = lkG gs c k := by
  unfold lkG; rw [List.getD_eq_getElem?_getD, List.getElem?_append_left hk, ← List.getD_eq_getElem?_getD]
theorem lkG_map {gs x : List Gd} {c : Int} {a m : Nat} (h : a + m ≤ gs.length) : (List.range' a m).map (lkG (gs ++ x) c) = (List.range' a m).map (lkG gs c) := by
  apply List.map_congr_left
  intro k hk
  rw [List.mem_range'_1] at hk
  exact lkG_ext (by omega)
theorem lkG_last {gs : List Gd} {g : Gd} {c : Int} : lkG (gs ++ [g]) c gs.length = (if gC g then 0 else 2, gs.length, c, gP g) := by
  unfold lkG
  have : (gs ++ [g]).getD gs.length (false, 0, [], 0, 0, 0, false) = g := by simp [List.getD_eq_getElem?_getD]
  rw [this]
theorem lkG_step {gs : List Gd} {g : Gd} {c : Int} {N i : Nat} (h : gs.length = N + i) : (List.range' N (i + 1)).map (lkG (gs ++ [g]) c) = (List.range' N i).map (lkG gs c) ++ [(if gC g then 0 else 2, gs.length, c, gP g)] := by
  rw [List.range'_1_concat, List.map_append, lkG_map (by omega), ← h]
  rw [List.map_singleton, lkG_last]
theorem k_readGuardsE {s : yS} {e : Nat × Nat} {c : Int32} {Q : yS → Prop} (hc : erM s n e) (H : Q s) : W_X12_readGuards s c Q := by
  unfold W_X12_readGuards
  intro P2 hP2
  exact hP2 _ _ ⟨fun _ => H, fun hh => absurd hh hc.ne⟩
theorem k_readGuards {s : yS} {j F : Nat} {gs : List Gd} {L : List Lk} {call : Int} {Q : yS → Prop} (h : txM s T n) (hc : cuM s T n j) (ho : okJ T n j) (hg : gdM s gs) (hgl : gs.length + 4 ≤ 900) (hl : lkM s L) (hL : L.length + 4 ≤ 1250) (hF : n < F)
    (Hok : ∀ gs' j', pGuards (tkJ T n) F 4 gs j = .ok (gs', j') → okJ T n j' → tkK (tkJ T n j') ≠ 2 → ∀ m, m ≤ 4 → gs'.length = gs.length + m → (∃ x, gs' = gs ++ x) → ∀ s', frM dG s s' → cuM s' T n j' → gdM s' gs' → lkM s' (L ++ (List.range' gs.length m).map (lkG gs' call)) → Q s')
    (Hcor : ∀ gs' j', pGuards (tkJ T n) F 4 gs j = .ok (gs', j') → tkK (tkJ T n j') = 2 → ∀ s', frM dG s s' → erM s' n (pRef (tkJ T n j')) → Q s')
    (Herr : ∀ e, pGuards (tkJ T n) F 4 gs j = .error e → ∀ s', frM dG s s' → erM s' n e → Q s') : W_X12_readGuards s (Int32.ofInt call) Q := by
  have hn := h.1
  unfold W_X12_readGuards
  intro P2 hP2
  generalize hR : pGuards (tkJ T n) F 4 gs j = R at Hok Hcor Herr
  suffices hLp : ∀ (r i j1 : Nat) (gs1 : List Gd) (s2 : yS), i + r = 4 → okJ T n j1 → frM dG s s2 → cuM s2 T n j1 → gdM s2 gs1 → gs1.length = gs.length + i → (∃ x, gs1 = gs ++ x) → lkM s2 (L ++ (List.range' gs.length i).map (lkG gs1 call)) → R = pGuards (tkJ T n) F r gs1 j1 → P2 (nI i) s2 from
    hLp 4 0 j gs s (by omega) ho frM.rfl' hc hg rfl ⟨[], by simp⟩ (by simpa using hl) hR.symm
  clear hR
  intro r
  induction r with
  | zero =>
    intro i j1 gs1 s2 hi o1 F2 c2 g2 hgl1 hx l2 hp
    have hp : R = .ok (gs1, j1) := hp
    apply hP2
    refine ⟨fun hb => ?_, fun hb => ?_⟩
    · refine Hok gs1 j1 hp o1 (fun h2 => hb (c2.2.2.2.1 (by omega)).1) i (by omega) hgl1 hx s2 F2 c2 g2 l2
    · have hk1 : tkK (tkJ T n j1) ≠ 1 := by
        intro hk; have := (c2.2.2.1 hk).1; rw [hb] at this; exact absurd this (by decide)
      rw [c2.t0 hk1]
      refine ⟨fun h2 => Hok gs1 j1 hp o1 h2 i (by omega) hgl1 hx s2 F2 c2 g2 l2, fun h2 => ⟨fun hh => absurd (by congr 1) hh, fun _ => ?_⟩⟩
      rw [c2.2.1]
      refine k_wrong (fun hh => absurd hb hh) (fun _ => Hcor gs1 j1 hp h2 _ ((F2.wI (by unfold dG; omega)).wI (by unfold dG; omega)) ?_)
      refine ⟨?_, ?_, ?_, ?_, ⟨_, (tkJ_cases T n j1).2.2.1, ?_⟩⟩
      · unfold pRef; rw [if_neg hk1, if_neg (by omega)]; rw [sI_w, if_neg (by omega), sI_w, if_pos ⟨rfl, rfl⟩]
      · unfold pRef; rw [if_neg hk1, if_neg (by omega)]; show 1 ≤ 2; omega
      · unfold pRef; rw [if_neg hk1, if_neg (by omega)]; show 2 ≤ 8; omega
      · unfold pRef; rw [sI_w, if_pos ⟨rfl, rfl⟩]
      · rw [sI_w, if_neg (by omega), sI_w, if_neg (by omega)]; exact c2.1
  | succ r ih =>
    intro i j1 gs1 s2 hi o1 F2 c2 g2 hgl1 hx l2 hp
    by_cases h2 : tkK (tkJ T n j1) = 2
    · rw [pGuards, if_pos h2] at hp
      have hb := c2.2.2.2.1 (by omega)
      apply hP2
      refine ⟨fun hh => absurd hb.1 hh, fun _ => ⟨fun hh => absurd ((c2.t0 (by omega)).mpr h2) hh, fun _ => ⟨fun _ => ?_, fun hh => ?_⟩⟩⟩
      · refine k_readGuard (F := F) (h.gf F2) c2 h2 o1 g2 (by omega) l2 (by rw [List.length_append, List.length_map, List.length_range']; omega) hF (fun g j' hg' o' s' F' c' g' l' => ?_) (fun e he s' F' e' => ?_)
        · intro x4 e4; subst e4; rw [nI_s]
          rw [hg'] at hp
          refine ih (i + 1) j' (gs1 ++ [g]) s' (by omega) o' (F2.trans F') c' g' (by simp; omega) ?_ ?_ hp
          · obtain ⟨x, hx⟩ := hx; exact ⟨x ++ [g], by rw [hx, List.append_assoc]⟩
          · rw [lkG_step hgl1, ← List.append_assoc]; exact l'
        · intro x4 e4
          rw [he] at hp
          exact hP2 _ _ ⟨fun _ => Herr e hp s' (F2.trans F') e', fun hh => absurd hh e'.ne⟩
      · rw [nI_inj (by omega) (by omega)] at hh; omega
    · rw [pGuards, if_neg h2] at hp
      have hQ := Hok gs1 j1 hp o1 h2 i (by omega) hgl1 hx s2 F2 c2 g2 l2
      apply hP2
      refine ⟨fun _ => hQ, fun hb => ?_⟩
      have hk1 : tkK (tkJ T n j1) ≠ 1 := by
        intro hk; have := (c2.2.2.1 hk).1; rw [hb] at this; exact absurd this (by decide)
      exact ⟨fun _ => hQ, fun hh => absurd ((c2.t0 hk1).mp hh) h2⟩
/-! ===== counters, rules, nodes, ways ===== -/
def dP (a i : Nat) : Prop := (a = 139 ∧ (10 ≤ i ∧ i ≤ 16 ∨ i = 19 ∨ i = 25 ∨ i = 27 ∨ i = 34 ∨ i = 41 ∨ i = 43)) ∨ (144 ≤ a ∧ a ≤ 164)
theorem dP_nx : ∀ i, 10 ≤ i → i ≤ 16 → dP 139 i := fun i h1 h2 => by unfold dP; omega
theorem dGP : ∀ a i, dG a i → dP a i := fun a i h => by unfold dG at h; unfold dP; omega
theorem txM.pf {s s' : yS} (h : txM s T n) (k : frM dP s s') : txM s' T n := h.fr (k.1 _ _ (by unfold dP; omega)) (fun i => k.1 _ _ (by unfold dP; omega))
def csM (s : yS) (cs : List (List Nat × Nat)) : Prop := (sI s 139 19) = nI cs.length ∧ ∀ (k : Nat) (h : k < cs.length), (sJ s 144) k = Int64.ofInt (c27 0 cs[k].1) ∧ (sI s 145) k = nI cs[k].2
def rs1r (s : yS) (k : Nat) (r : Rl) : Prop := (sI s 146) k = nI (rO r) ∧ (sI s 147) k = bI (rU r) ∧ (sI s 148) k = Int32.ofInt (rC r) ∧ (sI s 149) k = nI (rF r) ∧ (sI s 150) k = nI (rM r)
def rsM (s : yS) (rs : List Rl) : Prop := (sI s 139 25) = nI rs.length ∧ ∀ (k : Nat) (h : k < rs.length), rs1r s k rs[k]
def nsM (s : yS) (ns : List (List Nat)) : Prop := (sI s 139 27) = nI ns.length ∧ ∀ (k : Nat) (h : k < ns.length), (sJ s 151) k = Int64.ofInt (c27 0 ns[k])
def ws1r (s : yS) (k : Nat) (w : Wy) : Prop := (sI s 152) k = nI (wO w) ∧ (sI s 153) k = Int32.ofInt (wCl w) ∧ (sI s 154) k = nI (wF w) ∧ (sI s 155) k = nI (wM w) ∧ (sJ s 156) k = Int64.ofInt (c27 0 (wN w))
def wsM (s : yS) (ws : List Wy) : Prop := (sI s 139 34) = nI ws.length ∧ ∀ (k : Nat) (h : k < ws.length), ws1r s k ws[k]
def psM (s : yS) (ps : PS) : Prop := csM s (pC ps) ∧ rsM s (pR ps) ∧ nsM s (pN ps) ∧ wsM s (pW ps) ∧ gdM s (pG ps) ∧ lkM s (lkOf ps)
theorem csM.fr {s s' : yS} {cs : List (List Nat × Nat)} (h : csM s cs) (h0 : (sI s' 139 19) = (sI s 139 19)) (h1 : ∀ i, i < cs.length → sI s' 145 i = sI s 145 i) (h2 : ∀ i, i < cs.length → sJ s' 144 i = sJ s 144 i) : csM s' cs :=
  ⟨h0.trans h.1, fun k hk => by rw [h1 k hk, h2 k hk]; exact h.2 k hk⟩
theorem rsM.fr {s s' : yS} {rs : List Rl} (h : rsM s rs) (h0 : (sI s' 139 25) = (sI s 139 25)) (h1 : ∀ a i, 146 ≤ a → a ≤ 150 → i < rs.length → sI s' a i = sI s a i) : rsM s' rs := by
  refine ⟨h0.trans h.1, fun k hk => ?_⟩
  have := h.2 k hk
  unfold rs1r at this ⊢
  rw [h1 146 k (by omega) (by omega) hk, h1 147 k (by omega) (by omega) hk, h1 148 k (by omega) (by omega) hk, h1 149 k (by omega) (by omega) hk, h1 150 k (by omega) (by omega) hk]
  exact this
theorem nsM.fr {s s' : yS} {ns : List (List Nat)} (h : nsM s ns) (h0 : (sI s' 139 27) = (sI s 139 27)) (h1 : ∀ i, i < ns.length → sJ s' 151 i = sJ s 151 i) : nsM s' ns :=
  ⟨h0.trans h.1, fun k hk => by rw [h1 k hk]; exact h.2 k hk⟩
theorem wsM.fr {s s' : yS} {ws : List Wy} (h : wsM s ws) (h0 : (sI s' 139 34) = (sI s 139 34)) (h1 : ∀ a i, 152 ≤ a → a ≤ 155 → i < ws.length → sI s' a i = sI s a i) (h2 : ∀ i, i < ws.length → sJ s' 156 i = sJ s 156 i) : wsM s' ws := by
  refine ⟨h0.trans h.1, fun k hk => ?_⟩
  have := h.2 k hk
  unfold ws1r at this ⊢
  rw [h1 152 k (by omega) (by omega) hk, h1 153 k (by omega) (by omega) hk, h1 154 k (by omega) (by omega) hk, h1 155 k (by omega) (by omega) hk, h2 k hk]
  exact this
theorem csM.gf {s s' : yS} {cs : List (List Nat × Nat)} (h : csM s cs) (k : frM dG s s') : csM s' cs := h.fr (k.1 _ _ (by unfold dG; omega)) (fun i _ => k.1 _ _ (by unfold dG; omega)) (fun i _ => k.2.1 _ _ (by unfold dG; omega))
theorem rsM.gf {s s' : yS} {rs : List Rl} (h : rsM s rs) (k : frM dG s s') : rsM s' rs := h.fr (k.1 _ _ (by unfold dG; omega)) (fun a i _ _ _ => k.1 _ _ (by unfold dG; omega))
theorem nsM.gf {s s' : yS} {ns : List (List Nat)} (h : nsM s ns) (k : frM dG s s') : nsM s' ns := h.fr (k.1 _ _ (by unfold dG; omega)) (fun i _ => k.2.1 _ _ (by unfold dG; omega))
theorem wsM.gf {s s' : yS} {ws : List Wy} (h : wsM s ws) (k : frM dG s s') : wsM s' ws := h.fr (k.1 _ _ (by unfold dG; omega)) (fun a i _ _ _ => k.1 _ _ (by unfold dG; omega)) (fun i _ => k.2.1 _ _ (by unfold dG; omega))
theorem psM.nx {s s' : yS} {ps : PS} (h : psM s ps) (k : nxF s s') : psM s' ps :=
  ⟨h.1.gf (k.fr dG_nx), h.2.1.gf (k.fr dG_nx), h.2.2.1.gf (k.fr dG_nx), h.2.2.2.1.gf (k.fr dG_nx), h.2.2.2.2.1.nx k, h.2.2.2.2.2.nx k⟩
/-- how long the lists are, and what lies in what -/
def wfP (ps : PS) : Prop := (pG ps).length ≤ 4 * ((pR ps).length + (pW ps).length) ∧ (∀ r ∈ pR ps, rM r ≤ 4 ∧ rF r + rM r ≤ (pG ps).length) ∧ (∀ w ∈ pW ps, wM w ≤ 4 ∧ wF w + wM w ≤ (pG ps).length) ∧ (∀ c ∈ pC ps, isNm c.1) ∧ (∀ x ∈ pN ps, isNm x)
theorem flat_len {α β : Type} {f : α → List β} {m : Nat} : ∀ (l : List α), (∀ x ∈ l, (f x).length ≤ m) → (l.flatMap f).length ≤ m * l.length
  | [], _ => by simp
  | a :: l, h => by
    rw [List.flatMap_cons, List.length_append, List.length_cons]
    have h1 := h a (by simp)
    have h2 := flat_len (m := m) l (fun x hx => h x (by simp [hx]))
    rw [Nat.mul_add]; omega
theorem lkOf_len {ps : PS} (h : wfP ps) : (lkOf ps).length ≤ 5 * ((pR ps).length + (pW ps).length) := by
  unfold lkOf
  rw [List.length_append]
  have h1 : ((pR ps).flatMap (lkR (pG ps))).length ≤ 5 * (pR ps).length := flat_len _ (fun r hr => by
    unfold lkR; rw [List.length_map, List.length_range']; have := (h.2.1 r hr).1; omega)
  have h2 : (((pW ps).mapIdx (lkW (pG ps))).flatten).length ≤ 5 * (pW ps).length := by
    have h3 : ((pW ps).mapIdx (lkW (pG ps))).flatten = ((pW ps).mapIdx (lkW (pG ps))).flatMap id := by rw [List.flatMap_id]
    rw [h3]
    refine Nat.le_trans (flat_len (m := 5) _ (fun x hx => ?_)) (by rw [List.length_mapIdx]; exact Nat.le_refl _)
    obtain ⟨i, hi, e⟩ := List.mem_mapIdx.mp hx
    subst e
    show (lkW _ _ _).length ≤ 5
    unfold lkW; rw [List.length_append, List.length_map, List.length_range']
    have := (h.2.2.1 _ (List.getElem_mem hi)).1
    show _ + 1 ≤ 5; omega
  omega
theorem lkOf_ext {cs : List (List Nat × Nat)} {rs : List Rl} {ns : List (List Nat)} {ws : List Wy} {gs x : List Gd} {cs' : List (List Nat × Nat)} {ns' : List (List Nat)} (h : wfP (cs, rs, ns, ws, gs)) : lkOf (cs', rs, ns', ws, gs ++ x) = lkOf (cs, rs, ns, ws, gs) := by
  unfold lkOf pR pW pG
  dsimp only
  congr 1
  · rw [List.flatMap_def, List.flatMap_def]
    congr 1
    apply List.map_congr_left
    intro r hr
    exact lkG_map (gs := gs) (h.2.1 r hr).2
  · congr 1
    apply List.mapIdx_eq_mapIdx_iff.mpr
    intro i hi
    unfold lkW
    rw [lkG_map (gs := gs) (h.2.2.1 _ (List.getElem_mem hi)).2]
theorem lkOf_rule {cs : List (List Nat × Nat)} {rs : List Rl} {ns : List (List Nat)} {gs : List Gd} {r : Rl} : lkOf (cs, rs ++ [r], ns, [], gs) = lkOf (cs, rs, ns, [], gs) ++ lkR gs r := by
  unfold lkOf pR pW pG; simp
theorem lkOf_way {cs : List (List Nat × Nat)} {rs : List Rl} {ns : List (List Nat)} {ws : List Wy} {gs : List Gd} {w : Wy} : lkOf (cs, rs, ns, ws ++ [w], gs) = lkOf (cs, rs, ns, ws, gs) ++ lkW gs ws.length w := by
  unfold lkOf pR pW pG; simp
end

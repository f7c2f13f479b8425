section
variable {T : Nat → Nat} {n : Nat}
theorem k_isOld {s : yS} {a N : Nat} {l : List (List Nat)} {j : Nat} {Q : Int32 → Prop} (hc : cuM s T n j) (hl : l.length ≤ N) (hN : N ≤ 24) (hn : ∀ (k : Nat) (h : k < l.length), sJ s a k = Int64.ofInt (c27 0 l[k])) (hnm : ∀ x ∈ l, isNm x)
    (H : ∀ r : Int32, (r = 0 ∨ r = 1) → (tkK (tkJ T n j) = 5 → (r = 0 ↔ ¬ tkN (tkJ T n j) ∈ l)) → Q r) : W_X12_isOld s a N (nI l.length) Q := by
  unfold W_X12_isOld
  intro P5 hP5
  suffices hL : ∀ (m k : Nat) (r : Int32), k + m = l.length → (r = 0 ∨ r = 1) → (tkK (tkJ T n j) = 5 → (r = 0 ↔ ∀ (i : Nat) (h : i < l.length), i < k → l[i] ≠ tkN (tkJ T n j))) → P5 r (nI k) from
    hL l.length 0 0 (by omega) (Or.inl rfl) (fun _ => ⟨fun _ i _ h2 => by omega, fun _ => rfl⟩)
  intro m
  induction m with
  | zero =>
    intro k r hk hr hq
    apply hP5
    rw [nI_leU (by omega) (by omega)]
    refine ⟨fun _ => ⟨hr, H r hr (fun h5 => ?_)⟩, fun hh => absurd (by omega) hh⟩
    rw [hq h5]
    constructor
    · intro h1 h2
      obtain ⟨i, hi, e⟩ := List.getElem_of_mem h2
      exact h1 i hi (by omega) e
    · intro h1 i hi _ e
      exact h1 (e ▸ List.getElem_mem hi)
  | succ m ih =>
    intro k r hk hr hq
    have next : ∀ y : Int32, (y = 0 ∨ y = 1) → (tkK (tkJ T n j) = 5 → (y = 0 ↔ ∀ (i : Nat) (h : i < l.length), i < k + 1 → l[i] ≠ tkN (tkJ T n j))) → ∀ x5 : Int32, x5 = (nI k + 1) → P5 y x5 := by
      intro y hy hyq x5 e5
      subst e5; rw [nI_s]; exact ih (k + 1) y (by omega) hy hyq
    apply hP5
    rw [nI_leU (by omega) (by omega)]
    refine ⟨fun hh => absurd hh (by omega), fun _ => ?_⟩
    intro P32 hP32
    refine ⟨fun h1 => hP32 1 (next 1 (Or.inr rfl) (fun h5 => ?_)), fun h0 => ⟨nI_inU (by omega) (by omega), ?_⟩⟩
    · constructor
      · intro hh; exact absurd hh (by decide)
      · intro hh; exfalso; apply h1; rw [hq h5]; intro i hi hik; exact hh i hi (by omega)
    · rw [nI_ix (by omega), hn k (by omega), lgc_eq0, Int64.toInt_inj]
      refine ⟨fun h1 => hP32 0 (next 0 (Or.inl rfl) (fun h5 => ⟨fun _ i hi hik e => ?_, fun _ => rfl⟩)), fun h1 => hP32 1 (next 1 (Or.inr rfl) (fun h5 => ⟨fun hh => absurd hh (by decide), fun hh => ?_⟩))⟩
      · have hnj := (hc.2.2.2.2.2.2.2.2 (Or.inl h5)).2
        by_cases ci : i = k
        · subst ci; rw [e] at h1; exact h1 hnj.symm
        · exact (hq h5).mp h0 i hi (by omega) e
      · exfalso
        have hnj := (hc.2.2.2.2.2.2.2.2 (Or.inl h5)).2
        have hx := (tkJ_cases T n j).2.2.2.2.1 (Or.inl h5)
        have hkl : k < l.length := by omega
        refine hh k hkl (by omega) ?_
        rw [hnj] at h1
        exact (c27_inj (hnm _ (List.getElem_mem hkl)) hx).mp h1
theorem erM.nx {s s' : yS} {e : Nat × Nat} (h : erM s n e) (h1 : ∀ i, (i = 10 ∨ i = 15 ∨ i = 16) → sI s' 139 i = sI s 139 i) : erM s' n e := h.fr (h1 _ (by omega)) (h1 _ (by omega)) (h1 _ (by omega))
theorem pRef_b (t : Tok) : 1 ≤ (pRef t).1 ∧ (pRef t).1 ≤ 8 := by unfold pRef; dsimp only; split <;> (try split) <;> omega
theorem k_wrongT {s : yS} {j : Nat} {Q : yS → Prop} (hc : cuM s T n j) (hk : tkK (tkJ T n j) = 2) (H : ∀ s', nxF s s' → erM s' n (pRef (tkJ T n j)) → Q s') : W_X12_wrong s (nI 2) (nI (tkP (tkJ T n j))) Q := by
  have hb := hc.2.2.2.1 (by omega)
  refine k_wrong (fun hh => absurd hb.1 hh) (fun _ => H _ ((nxF.rfl'.wI (by omega)).wI (by omega)) ?_)
  have hr : pRef (tkJ T n j) = (2, tkP (tkJ T n j)) := by unfold pRef; rw [if_neg (by omega), if_neg (by omega)]
  rw [hr]
  refine ⟨?_, ?_, ?_, ?_, ⟨_, (tkJ_cases T n j).2.2.1, ?_⟩⟩
  · rw [sI_w, if_neg (by omega), sI_w, if_pos ⟨rfl, rfl⟩]
  · show 1 ≤ 2; omega
  · show 2 ≤ 8; omega
  · rw [sI_w, if_pos ⟨rfl, rfl⟩]
  · rw [sI_w, if_neg (by omega), sI_w, if_neg (by omega)]; exact hc.1
theorem k_readCounter {s : yS} {j F : Nat} {ps : PS} {Q : yS → Prop} (h : txM s T n) (hc : cuM s T n j) (hk : 2 ≤ tkK (tkJ T n j)) (ho : okJ T n j) (hps : psM s ps) (hwf : wfP ps) (hW : pW ps = []) (hcl : (pC ps).length < 6) (hrl : (pR ps).length ≤ 4 * (pC ps).length) (hF : n < F)
    (Hok : ∀ ps' j', pCounter (tkJ T n) F ps (j + 1) = .ok (ps', j') → okJ T n j' → wfP ps' → pW ps' = [] → pN ps' = pN ps → (pC ps').length = (pC ps).length + 1 → (pR ps').length ≤ 4 * (pC ps').length → ∀ s', frM dP s s' → cuM s' T n j' → psM s' ps' → Q s')
    (Herr : ∀ e, pCounter (tkJ T n) F ps (j + 1) = .error e → ∀ s', frM dP s s' → erM s' n e → Q s') : W_X12_readCounter s Q := by
  have hn := h.1
  obtain ⟨cs, rs, ns, ws, gs⟩ := ps
  have hW : ws = [] := hW
  subst hW
  have hcl : cs.length < 6 := hcl
  have hrl : rs.length ≤ 4 * cs.length := hrl
  unfold W_X12_readCounter
  rw [wd345, wd347]
  refine k_nextJ h hc (by omega) (fun s1 F1 c1 => ?_)
  have tx1 := F1.txM h
  have ps1 := hps.nx F1
  have FP1 : frM dP s s1 := F1.fr dP_nx
  have o1 := ho.s hk
  intro P40 hP40
  have bad : ¬ (tkK (tkJ T n (j + 1)) = 5 ∧ ¬ tkN (tkJ T n (j + 1)) ∈ cs.map Prod.fst) → ∀ y, (y = 0 ∨ tkK (tkJ T n (j + 1)) = 1) → P40 y := by
    intro hb y hy
    have he : pCounter (tkJ T n) F (cs, rs, ns, [], gs) (j + 1) = .error (pRef (tkJ T n (j + 1))) := by unfold pCounter; exact if_neg hb
    apply hP40
    refine k_mustJ tx1 c1 (fun h1 h2 => ?_) (fun _ s' F' e' => ⟨fun hh => absurd rfl hh, fun _ => Herr _ he s' (FP1.trans (F'.fr dP_nx)) e'⟩)
    rcases hy with hy | hy
    · exact absurd hy h1
    · exact absurd hy h2
  have hnames : ∀ (k : Nat) (h : k < (cs.map Prod.fst).length), sJ s1 144 k = Int64.ofInt (c27 0 (cs.map Prod.fst)[k]) := by
    intro k hk'
    rw [List.length_map] at hk'
    rw [List.getElem_map]; exact (ps1.1.2 k hk').1
  by_cases hk1 : tkK (tkJ T n (j + 1)) = 1
  · have hb := bad (by omega)
    refine ⟨fun _ => hb _ (Or.inr hk1), fun _ => k_isReserved c1 (fun r _ _ => ⟨fun _ => hb _ (Or.inr hk1), fun _ => ?_⟩)⟩
    rw [ps1.1.1]
    have := k_isOld (Q := fun r46 => (¬ r46 = 0 → P40 0) ∧ (r46 = 0 → P40 1)) c1 (a := 144) (N := 6) (l := cs.map Prod.fst) (by rw [List.length_map]; omega) (by omega) hnames (by intro x hx; rw [List.mem_map] at hx; obtain ⟨c, hc1, hc2⟩ := hx; rw [← hc2]; exact hwf.2.2.2.1 c hc1) (fun r _ _ => ⟨fun _ => hb _ (Or.inr hk1), fun _ => hb _ (Or.inr hk1)⟩)
    rw [List.length_map] at this
    exact this
  rw [c1.t2 hk1]
  refine ⟨fun h3 => bad (by omega) _ (Or.inl rfl), fun h3 => k_isReserved c1 (fun r _ hr => ?_)⟩
  have hr := hr hk1
  refine ⟨fun hz => bad (fun hh => hz (by rw [hr, if_neg (by omega)])) _ (Or.inl rfl), fun hz => ?_⟩
  have h5 : tkK (tkJ T n (j + 1)) = 5 := by
    rcases h3 with h3 | h3
    · exact h3
    · rw [if_pos h3] at hr; rw [hr] at hz; exact absurd hz (by decide)
  rw [ps1.1.1]
  have hold := k_isOld (Q := fun r46 => (¬ r46 = 0 → P40 0) ∧ (r46 = 0 → P40 1)) c1 (a := 144) (N := 6) (l := cs.map Prod.fst) (by rw [List.length_map]; omega) (by omega) hnames (by intro x hx; rw [List.mem_map] at hx; obtain ⟨c, hc1, hc2⟩ := hx; rw [← hc2]; exact hwf.2.2.2.1 c hc1)
  rw [List.length_map] at hold
  refine hold (fun r2 _ hr2 => ⟨fun hz2 => bad (fun hh => hz2 ((hr2 h5).mpr hh.2)) _ (Or.inl rfl), fun hz2 => ?_⟩)
  have hnew := (hr2 h5).mp hz2
  clear hold hr2 hz2 bad
  have hpc : pCounter (tkJ T n) F (cs, rs, ns, [], gs) (j + 1) = (if tkK (tkJ T n (j + 2)) = 4 ∧ 1 ≤ tkV (tkJ T n (j + 2)) ∧ tkV (tkJ T n (j + 2)) ≤ 15 then
      pRules (tkJ T n) F cs.length 4 (cs ++ [(tkN (tkJ T n (j + 1)), (tkV (tkJ T n (j + 2))).toNat)], rs, ns, [], gs) (j + 3)
    else .error (pRef (tkJ T n (j + 2)))) := by unfold pCounter; exact if_pos ⟨h5, hnew⟩
  rw [hpc] at Hok Herr
  clear hpc
  apply hP40
  refine k_mustJ tx1 c1 (fun _ _ => ⟨fun _ => ?_, fun hh => absurd hh (by decide)⟩) (fun hh => hh.elim (fun hh => absurd hh (by decide)) (fun hh => absurd hh hk1))
  have g1 : (sI s1 139 19) = nI cs.length := ps1.1.1
  rw [g1, nI_ix (by omega)]
  refine ⟨nI_inU hcl (by omega), ?_⟩
  intro s6 e6
  rw [(c1.2.2.2.2.2.2.2.2 (Or.inl h5)).2] at e6
  have FP6 : frM dP s s6 := by subst e6; exact FP1.wJ (by unfold dP; omega)
  have c6 : cuM s6 T n (j + 1) := c1.fr (fun i hi => by subst e6; rfl) (fun i hi => by subst e6; rw [sJ_w, if_neg (by omega)])
  have m6 : sJ s6 144 cs.length = Int64.ofInt (c27 0 (tkN (tkJ T n (j + 1)))) := by subst e6; rw [sJ_w, if_pos ⟨rfl, rfl⟩]
  have ps6 : psM s6 (cs, rs, ns, [], gs) := by
    refine ⟨ps1.1.fr (by subst e6; rfl) (fun i _ => by subst e6; rfl) (fun i hi => by subst e6; rw [sJ_w, if_neg (by have : i < cs.length := hi; omega)]), ps1.2.1.fr (by subst e6; rfl) (fun a i _ _ _ => by subst e6; rfl), ps1.2.2.1.fr (by subst e6; rfl) (fun i hi => by subst e6; rw [sJ_w, if_neg (by omega)]), ps1.2.2.2.1.fr (by subst e6; rfl) (fun a i _ _ _ => by subst e6; rfl) (fun i hi => by subst e6; rw [sJ_w, if_neg (by omega)]), ps1.2.2.2.2.1.fr (by subst e6; rfl) (fun a i _ _ => by subst e6; rfl) (fun i hi => by subst e6; rw [sJ_w, if_neg (by omega)]), ps1.2.2.2.2.2.fr (by subst e6; rfl) (fun i _ => by subst e6; rfl)⟩
  clear e6
  refine k_nextJ (h.pf FP6) c6 hk1 (fun s7 F7 c7 => ?_)
  have FP7 := FP6.trans (F7.fr dP_nx)
  have ps7 := ps6.nx F7
  have m7 : sJ s7 144 cs.length = Int64.ofInt (c27 0 (tkN (tkJ T n (j + 1)))) := by rw [F7.aJ _ _ (by omega)]; exact m6
  have tx7 := h.pf FP7
  have o2 := o1.s (by omega)
  intro P98 hP98
  have bad : ¬ (tkK (tkJ T n (j + 2)) = 4 ∧ 1 ≤ tkV (tkJ T n (j + 2)) ∧ tkV (tkJ T n (j + 2)) ≤ 15) → ∀ y, (y = 0 ∨ tkK (tkJ T n (j + 2)) = 1) → P98 y := by
    intro hb y hy
    rw [if_neg hb] at Herr
    apply hP98
    refine k_mustJ tx7 c7 (fun h1 h2 => ?_) (fun _ s' F' e' => ⟨fun hh => absurd rfl hh, fun _ => Herr _ rfl s' (FP7.trans (F'.fr dP_nx)) e'⟩)
    rcases hy with hy | hy
    · exact absurd hy h1
    · exact absurd hy h2
  by_cases hk2 : tkK (tkJ T n (j + 2)) = 1
  · have hb := bad (by omega)
    exact ⟨fun _ => hb _ (Or.inr hk2), fun _ => ⟨fun _ => hb _ (Or.inr hk2), fun _ => ⟨fun _ => hb _ (Or.inr hk2), fun _ => hb _ (Or.inr hk2)⟩⟩⟩
  rw [c7.t3 hk2]
  refine ⟨fun h3 => bad (fun hh => h3 hh.1) _ (Or.inl rfl), fun h3 => ?_⟩
  have h4 := (c7.2.2.2.2.2.2.2.1 h3).2
  have h3 : tkK (tkJ T n (j + 2)) = 4 := h3
  have h4 : (sJ s7 139 14) = Int64.ofInt (tkV (tkJ T n (j + 2))) := h4
  have hvb := (tkJ_cases T n (j + 2)).2.2.2.2.2.2.2.1 h3
  rw [h4, lgc_le0, lgc_ge0, oJ_toInt (by omega) (by omega), show ((0 : Int64)).toInt = 0 from rfl, show ((16 : Int64)).toInt = 16 from rfl]
  refine ⟨fun hx => bad (by omega) _ (Or.inl rfl), fun hx => ⟨fun hy => bad (by omega) _ (Or.inl rfl), fun hy => hP98 _ ?_⟩⟩
  clear bad
  rw [if_pos (by omega)] at Hok Herr
  refine k_mustJ tx7 c7 (fun _ _ => ⟨fun _ => ?_, fun hh => absurd hh (by decide)⟩) (fun hh => hh.elim (fun hh => absurd hh (by decide)) (fun hh => absurd hh hk2))
  have g7 : (sI s7 139 19) = nI cs.length := ps7.1.1
  rw [g7, nI_ix (by omega), h4, oI32 (by omega) (by omega)]
  refine ⟨nI_inU hcl (by omega), ?_⟩
  intro s12 e12 s13 e13
  have g12 : (sI s12 139 19) = nI cs.length := by subst e12; exact ps7.1.1
  rw [g12, nI_s] at e13
  have FP13 : frM dP s s13 := by subst e13; subst e12; exact (FP7.wI (by unfold dP; omega)).wI (by unfold dP; omega)
  have c13 : cuM s13 T n (j + 2) := c7.fr (fun i hi => by subst e13; subst e12; rw [sI_w, if_neg (by omega), sI_w, if_neg (by omega)]) (fun i hi => by subst e13; subst e12; rfl)
  generalize hcs1 : cs ++ [(tkN (tkJ T n (j + 1)), (tkV (tkJ T n (j + 2))).toNat)] = cs1 at Hok Herr
  have lcs1 : cs1.length = cs.length + 1 := by rw [← hcs1, List.length_append]; rfl
  have ps13 : psM s13 (cs1, rs, ns, [], gs) := by
    refine ⟨⟨?_, fun k hk' => ?_⟩, ps7.2.1.fr (by subst e13; subst e12; rfl) (fun a i _ _ _ => by subst e13; subst e12; rw [sI_w, if_neg (by omega), sI_w, if_neg (by omega)]), ps7.2.2.1.fr (by subst e13; subst e12; rfl) (fun i hi => by subst e13; subst e12; rfl), ps7.2.2.2.1.fr (by subst e13; subst e12; rfl) (fun a i _ _ _ => by subst e13; subst e12; rw [sI_w, if_neg (by omega), sI_w, if_neg (by omega)]) (fun i hi => by subst e13; subst e12; rfl), ps7.2.2.2.2.1.fr (by subst e13; subst e12; rfl) (fun a i _ _ => by subst e13; subst e12; rw [sI_w, if_neg (by omega), sI_w, if_neg (by omega)]) (fun i hi => by subst e13; subst e12; rfl), ?_⟩
    · show (sI s13 139 19) = nI cs1.length; rw [lcs1]; subst e13; rw [sI_w, if_pos ⟨rfl, rfl⟩]
    · have hk' : k < cs1.length := hk'
      show (sJ s13 144) k = Int64.ofInt (c27 0 cs1[k].1) ∧ (sI s13 145) k = nI cs1[k].2
      by_cases ck : k = cs.length
      · subst ck
        have : cs1[cs.length] = (tkN (tkJ T n (j + 1)), (tkV (tkJ T n (j + 2))).toNat) := by simp [← hcs1]
        rw [this]
        subst e13; subst e12
        refine ⟨m7, ?_⟩
        rw [sI_w, if_neg (by omega), sI_w, if_pos ⟨rfl, rfl⟩, ← oI_nat]
        show Int32.ofInt _ = Int32.ofInt _
        congr 1; show _ = (((tkV (tkJ T n (j + 2))).toNat : Nat) : Int); omega
      · have hk2 : k < cs.length := by omega
        have : cs1[k] = cs[k] := by simp [← hcs1, List.getElem_append_left hk2]
        rw [this]
        subst e13; subst e12
        rw [sI_w, if_neg (by omega), sI_w, if_neg (by omega)]
        exact ps7.1.2 k hk2
    · have hlk : lkOf (cs1, rs, ns, [], gs) = lkOf (cs, rs, ns, [], gs) := rfl
      rw [hlk]
      exact ps7.2.2.2.2.2.fr (by subst e13; subst e12; rfl) (fun i _ => by subst e13; subst e12; rw [sI_w, if_neg (by omega), sI_w, if_neg (by omega)])
  have wf1 : wfP (cs1, rs, ns, [], gs) := by
    refine ⟨hwf.1, hwf.2.1, hwf.2.2.1, fun c hc' => ?_, hwf.2.2.2.2⟩
    have hc' : c ∈ cs1 := hc'
    rw [← hcs1, List.mem_append] at hc'
    rcases hc' with hc' | hc'
    · exact hwf.2.2.2.1 c hc'
    · rw [List.mem_singleton] at hc'; rw [hc']; exact (tkJ_cases T n (j + 1)).2.2.2.2.1 (Or.inl h5)
  clear e13 e12 hP98 hP40 ps7 c7 m7
  refine k_nextJ (h.pf FP13) c13 hk2 (fun s14 F14 c14 => ?_)
  have FP14 := FP13.trans (F14.fr dP_nx)
  have ps14 := ps13.nx F14
  have o3 := o2.s (by show 2 ≤ tkK (tkJ T n (j + 2)); omega)
  intro P135 hP135
  clear ps13 c13 FP13
  -- a fault
  have hE : ∀ (x : Int32) (s16 : yS) (e : Nat × Nat), pRules (tkJ T n) F cs.length 4 (cs1, rs, ns, [], gs) (j + 3) = .error e → frM dP s s16 → erM s16 n e → P135 x s16 := by
    intro x s16 e he F16 e16
    apply hP135
    intro P318 hP318
    have hP := hP318 (k_expectE e16 (Herr e he s16 F16 e16))
    exact ⟨fun _ => hP, fun hh => absurd hh e16.ne⟩
  generalize hR : pRules (tkJ T n) F cs.length 4 (cs1, rs, ns, [], gs) (j + 3) = R at Hok Herr hE
  suffices hLp : ∀ (r i j1 : Nat) (rs1 : List Rl) (gs1 : List Gd) (s16 : yS), i + r = 4 → okJ T n j1 → frM dP s s16 → cuM s16 T n j1 → psM s16 (cs1, rs1, ns, [], gs1) → wfP (cs1, rs1, ns, [], gs1) → rs1.length = rs.length + i → R = pRules (tkJ T n) F cs.length r (cs1, rs1, ns, [], gs1) j1 → P135 (nI i) s16 from
    hLp 4 0 (j + 3) rs gs s14 (by omega) o3 FP14 c14 ps14 wf1 rfl hR.symm
  clear hR FP14 c14 ps14 wf1 FP1 FP6 FP7 F14 F7 F1 c1 c6 ps1 ps6 hnames h4
  intro r
  -- the end of the counter
  have fin : ∀ (i j1 : Nat) (rs1 : List Rl) (gs1 : List Gd) (s16 : yS), i ≤ 4 → okJ T n j1 → frM dP s s16 → cuM s16 T n j1 → psM s16 (cs1, rs1, ns, [], gs1) → wfP (cs1, rs1, ns, [], gs1) → rs1.length = rs.length + i → tkK (tkJ T n j1) ≠ 2 → R = (if tkK (tkJ T n j1) = 3 then .ok ((cs1, rs1, ns, [], gs1), j1 + 1) else .error (pRef (tkJ T n j1))) → W_X12_expect s16 1 (fun s17 => Q s17) := by
    intro i j1 rs1 gs1 s16 hi o1 F16 c16 p16 w16 hl16 h2 hR
    refine k_expect (h.pf F16) c16 (Or.inr ⟨rfl, rfl⟩) (fun h3 s17 F17 c17 => ?_) (fun h3 s17 F17 e17 => ?_)
    · rw [if_pos h3] at hR
      refine Hok _ _ hR (o1.s (by omega)) w16 rfl rfl lcs1 ?_ s17 (F16.trans (F17.fr dP_nx)) c17 (p16.nx F17)
      show rs1.length ≤ 4 * cs1.length; omega
    · rw [if_neg h3] at hR
      exact Herr _ hR s17 (F16.trans (F17.fr dP_nx)) e17
  induction r with
  | zero =>
    intro i j1 rs1 gs1 s16 hi o1 F16 c16 p16 w16 hl16 hR
    rw [pRules] at hR
    apply hP135
    intro P318 hP318
    by_cases h2 : tkK (tkJ T n j1) = 2
    · have hb := c16.2.2.2.1 (by omega)
      refine ⟨fun hh => absurd hb.1 hh, fun _ => ⟨fun hh => absurd ((c16.t0 (by omega)).mpr h2) hh, fun _ => ⟨fun hh => absurd (by congr 1) hh, fun _ => ?_⟩⟩⟩
      rw [c16.2.1]
      rw [if_neg (by omega)] at hR
      exact k_wrongT c16 h2 (fun s' F' e' => Herr _ hR s' (F16.trans (F'.fr dP_nx)) e')
    · have hP := hP318 (fin i j1 rs1 gs1 s16 (by omega) o1 F16 c16 p16 w16 hl16 h2 hR)
      refine ⟨fun _ => hP, fun hb => ⟨fun _ => hP, fun hh => ?_⟩⟩
      have hk1 : tkK (tkJ T n j1) ≠ 1 := by
        intro hk; have := (c16.2.2.1 hk).1; rw [hb] at this; exact absurd this (by decide)
      exact absurd ((c16.t0 hk1).mp hh) h2
  | succ r ih =>
    intro i j1 rs1 gs1 s16 hi o1 F16 c16 p16 w16 hl16 hR
    rw [pRules] at hR
    apply hP135
    intro P318 hP318
    by_cases h2 : tkK (tkJ T n j1) = 2
    · have hb := c16.2.2.2.1 (by omega)
      rw [if_pos h2] at hR
      refine ⟨fun hh => absurd hb.1 hh, fun _ => ⟨fun hh => absurd ((c16.t0 (by omega)).mpr h2) hh, fun _ => ⟨fun _ => ?_, fun hh => by rw [nI_inj (by omega) (by omega)] at hh; omega⟩⟩⟩
      clear hP318
      refine k_nextJ (h.pf F16) c16 (by omega) (fun s18 F18 c18 => ?_)
      have FP18 := F16.trans (F18.fr dP_nx)
      have ps18 := p16.nx F18
      have tx18 := h.pf FP18
      have o18 := o1.s (by omega)
      refine k_isWord c18 (by omega) (fun r19 _ hr19 => ?_)
      intro P194 hP194
      have bad : ¬ (isW (tkJ T n (j1 + 1)) 2 = true ∨ isW (tkJ T n (j1 + 1)) 3 = true) → ∀ y, (y = 0 ∨ tkK (tkJ T n (j1 + 1)) = 1) → P194 y := by
        intro hb y hy
        have he : pRule (tkJ T n) F cs.length (cs1, rs1, ns, [], gs1) (j1 + 1) = .error (pRef (tkJ T n (j1 + 1))) := by unfold pRule; exact if_neg hb
        rw [he] at hR
        apply hP194
        refine k_mustJ tx18 c18 (fun h1 h2 => ?_) (fun _ s' F' e' => ⟨fun _ => hE _ s' _ hR (FP18.trans (F'.fr dP_nx)) e', fun hh => absurd rfl hh⟩)
        rcases hy with hy | hy
        · exact absurd hy h1
        · exact absurd hy h2
      by_cases hk1 : tkK (tkJ T n (j1 + 1)) = 1
      · have hb := bad (by unfold isW; simp [hk1])
        exact ⟨fun _ => hb _ (Or.inr hk1), fun _ => k_isWordE (fun r _ => ⟨fun _ => hb _ (Or.inr hk1), fun _ => hb _ (Or.inr hk1)⟩)⟩
      have hr19 := hr19 hk1
      have good : (isW (tkJ T n (j1 + 1)) 2 = true ∨ isW (tkJ T n (j1 + 1)) 3 = true) → P194 1 := by
        intro hw
        have k6 : tkK (tkJ T n (j1 + 1)) = 6 := by rcases hw with hw | hw <;> (unfold isW at hw; simp at hw; exact hw.1)
        have o19 := o18.s (by omega)
        clear bad
        have hpr : pRule (tkJ T n) F cs.length (cs1, rs1, ns, [], gs1) (j1 + 1) = (match pCall (tkJ T n) (j1 + 1 + 1) with
          | .error e => .error e
          | .ok (q, j2) =>
            match pGuards (tkJ T n) F 4 gs1 j2 with
            | .error e => .error e
            | .ok (gs', j3) =>
              if tkK (tkJ T n j3) = 3 then .ok ((cs1, rs1 ++ [(cs.length, isW (tkJ T n (j1 + 1)) 2, q, gs1.length, gs'.length - gs1.length)], ns, [], gs'), j3 + 1)
              else .error (pRef (tkJ T n j3))) := by unfold pRule; exact if_pos hw
        rw [hpr] at hR
        clear hpr
        apply hP194
        refine k_mustJ tx18 c18 (fun _ _ => ⟨fun hh => absurd hh (by decide), fun _ => ?_⟩) (fun hh => hh.elim (fun hh => absurd hh (by decide)) (fun hh => absurd hh hk1))
        have g18 : (sI s18 139 25) = nI rs1.length := ps18.2.1.1
        have gc18 : (sI s18 139 19) = nI cs1.length := ps18.1.1
        rw [g18, nI_ix (by omega), gc18, nI_p (by omega)]
        have hcl1 : cs1.length - 1 = cs.length := by omega
        show vp_in (nI rs1.length) 24 ∧ _
        refine ⟨nI_inU (by omega) (by omega), ?_⟩
        intro s24 e24
        have c24 : cuM s24 T n (j1 + 1) := c18.fr (fun i hi => by subst e24; rw [sI_w, if_neg (by omega)]) (fun i hi => by subst e24; rfl)
        refine k_isWord c24 (by omega) (fun r25 _ hr25 => ?_)
        have hr25 : r25 = bI (isW (tkJ T n (j1 + 1)) 2) := hr25 hk1
        rw [hr25, bI_nar]
        have g24 : (sI s24 139 25) = nI rs1.length := by subst e24; exact ps18.2.1.1
        rw [g24, nI_ix (by omega)]
        refine ⟨nI_inU (by omega) (by omega), ?_⟩
        intro s27 e27
        have FP27 : frM dP s s27 := by subst e27; subst e24; exact (FP18.wI (by unfold dP; omega)).wI (by unfold dP; omega)
        have c27' : cuM s27 T n (j1 + 1) := c24.fr (fun i hi => by subst e27; rw [sI_w, if_neg (by omega)]) (fun i hi => by subst e27; rfl)
        have v27 : (sI s27 146) rs1.length = nI cs.length ∧ (sI s27 147) rs1.length = bI (isW (tkJ T n (j1 + 1)) 2) := by
          subst e27; subst e24; refine ⟨?_, ?_⟩
          · rw [sI_w, if_neg (by omega), sI_w, if_pos ⟨rfl, rfl⟩]; show nI (cs1.length - 1) = _; rw [hcl1]
          · rw [sI_w, if_pos ⟨rfl, rfl⟩]
        have ps27 : psM s27 (cs1, rs1, ns, [], gs1) := by
          refine ⟨ps18.1.fr (by subst e27; subst e24; rfl) (fun i _ => by subst e27; subst e24; rw [sI_w, if_neg (by omega), sI_w, if_neg (by omega)]) (fun i hi => by subst e27; subst e24; rfl), ps18.2.1.fr (by subst e27; subst e24; rfl) (fun a i _ _ hi => by have hi : i < rs1.length := hi; subst e27; subst e24; rw [sI_w, if_neg (by omega), sI_w, if_neg (show ¬ (a = 146 ∧ i = rs1.length) by omega)]), ps18.2.2.1.fr (by subst e27; subst e24; rfl) (fun i hi => by subst e27; subst e24; rfl), ps18.2.2.2.1.fr (by subst e27; subst e24; rfl) (fun a i _ _ _ => by subst e27; subst e24; rw [sI_w, if_neg (by omega), sI_w, if_neg (by omega)]) (fun i hi => by subst e27; subst e24; rfl), ps18.2.2.2.2.1.fr (by subst e27; subst e24; rfl) (fun a i _ _ => by subst e27; subst e24; rw [sI_w, if_neg (by omega), sI_w, if_neg (by omega)]) (fun i hi => by subst e27; subst e24; rfl), ps18.2.2.2.2.2.fr (by subst e27; subst e24; rfl) (fun i _ => by subst e27; subst e24; rw [sI_w, if_neg (by omega), sI_w, if_neg (by omega)])⟩
        clear e27 e24 hP194 hr25 c24 g24 hr19 ps18 c18 tx18 F18 FP18
        refine k_nextJ (h.pf FP27) c27' hk1 (fun s28 F28 c28 => ?_)
        have FP28 := FP27.trans (F28.fr dP_nx)
        have ps28 := ps27.nx F28
        have v28 : (sI s28 146) rs1.length = nI cs.length ∧ (sI s28 147) rs1.length = bI (isW (tkJ T n (j1 + 1)) 2) := by
          rw [F28.a _ _ (by omega), F28.a _ _ (by omega)]; exact v27
        have tx28 := h.pf FP28
        have r28 : (sI s28 139 25) = nI rs1.length := ps28.2.1.1
        -- behind the call
        have err : ∀ (e : Nat × Nat) (q : Int32) (s30 : yS), R = .error e → frM dP s s30 → (sI s30 139 25) = nI rs1.length → erM s30 n e →
            (vp_in (sI s28 139 25) 24 ∧ ∀ s32 : yS, s32 = wI s30 148 (ix (sI s28 139 25)) q → 
           vp_in (sI s32 139 25) 24 ∧ ∀ s34 : yS, s34 = wI s32 149 (ix (sI s32 139 25)) (sI s32 139 41) → 
           vp_in (sI s34 139 25) 24 ∧ 
           W_X12_readGuards s34 (sI s34 148 (ix (sI s34 139 25))) 
           (fun s36 => vp_in (sI s36 139 25) 24 ∧ 
           vp_in (sI s36 139 25) 24 ∧ ∀ s39 : yS, s39 = wI s36 150 (ix (sI s36 139 25)) ((sI s36 139 41) - (sI s36 149 (ix (sI s36 139 25)))) → 
           ∀ s40 : yS, s40 = wI s39 139 25 ((sI s39 139 25) + 1) → 
           ∀ x41 : Int32, x41 = (nI i + 1) → 
           W_X12_expect s40 1 
           (fun s42 => P135 x41 s42))) := by
          intro e q s30 hRe F30 r30 e30
          rw [r28, nI_ix (by omega)]
          refine ⟨nI_inU (by omega) (by omega), ?_⟩
          intro s32 e32
          have r32 : (sI s32 139 25) = nI rs1.length := by subst e32; exact r30
          rw [r32, nI_ix (by omega)]
          refine ⟨nI_inU (by omega) (by omega), ?_⟩
          intro s34 e34
          have r34 : (sI s34 139 25) = nI rs1.length := by subst e34; exact r32
          rw [r34, nI_ix (by omega)]
          refine ⟨nI_inU (by omega) (by omega), ?_⟩
          have er34 : erM s34 n e := e30.nx (fun i hi => by subst e34; subst e32; rw [sI_w, if_neg (by omega), sI_w, if_neg (by omega)])
          have F34 : frM dP s s34 := by subst e34; subst e32; exact (F30.wI (by unfold dP; omega)).wI (by unfold dP; omega)
          refine k_readGuardsE er34 ?_
          rw [r34, nI_ix (by omega)]
          refine ⟨nI_inU (by omega) (by omega), nI_inU (by omega) (by omega), ?_⟩
          intro s39 e39 s40 e40 x41 e41
          have er40 : erM s40 n e := er34.nx (fun i hi => by subst e40; subst e39; rw [sI_w, if_neg (by omega), sI_w, if_neg (by omega)])
          have F40 : frM dP s s40 := by subst e40; subst e39; exact (F34.wI (by unfold dP; omega)).wI (by unfold dP; omega)
          exact k_expectE er40 (hE _ s40 e hRe F40 er40)
        refine k_readCall tx28 c28 (fun q hq hq2 hq1 hq15 s30 F30 c30 => ?_) (fun e he s30 F30 e30 => ?_)
        · rw [hq] at hR
          dsimp only at hR
          have FP30 := FP28.trans (F30.fr dP_nx)
          have ps30 := ps28.nx F30
          have v30 : (sI s30 146) rs1.length = nI cs.length ∧ (sI s30 147) rs1.length = bI (isW (tkJ T n (j1 + 1)) 2) := by
            rw [F30.a _ _ (by omega), F30.a _ _ (by omega)]; exact v28
          rw [r28, nI_ix (by omega)]
          refine ⟨nI_inU (by omega) (by omega), ?_⟩
          intro s32 e32
          have r32 : (sI s32 139 25) = nI rs1.length := by subst e32; exact ps30.2.1.1
          rw [r32, nI_ix (by omega)]
          refine ⟨nI_inU (by omega) (by omega), ?_⟩
          intro s34 e34
          have g32 : (sI s32 139 41) = nI gs1.length := by subst e32; exact ps30.2.2.2.2.1.1
          rw [g32] at e34
          have r34 : (sI s34 139 25) = nI rs1.length := by subst e34; exact r32
          have q34 : sI s34 148 rs1.length = Int32.ofInt q := by subst e34; subst e32; rw [sI_w, if_neg (by omega), sI_w, if_pos ⟨rfl, rfl⟩]
          have f34 : sI s34 149 rs1.length = nI gs1.length := by subst e34; rw [sI_w, if_pos ⟨rfl, rfl⟩]
          have v34 : (sI s34 146) rs1.length = nI cs.length ∧ (sI s34 147) rs1.length = bI (isW (tkJ T n (j1 + 1)) 2) := by
            subst e34; subst e32; rw [sI_w, if_neg (by omega), sI_w, if_neg (by omega), sI_w, if_neg (by omega), sI_w, if_neg (by omega)]; exact v30
          have F34 : frM dP s s34 := by subst e34; subst e32; exact (FP30.wI (by unfold dP; omega)).wI (by unfold dP; omega)
          have c34 : cuM s34 T n (j1 + 1 + 1 + 1) := c30.fr (fun i hi => by subst e34; subst e32; rw [sI_w, if_neg (by omega), sI_w, if_neg (by omega)]) (fun i hi => by subst e34; subst e32; rfl)
          have ps34 : psM s34 (cs1, rs1, ns, [], gs1) := by
            refine ⟨ps30.1.fr (by subst e34; subst e32; rfl) (fun i _ => by subst e34; subst e32; rw [sI_w, if_neg (by omega), sI_w, if_neg (by omega)]) (fun i hi => by subst e34; subst e32; rfl), ps30.2.1.fr (by subst e34; subst e32; rfl) (fun a i _ _ hi => by have hi : i < rs1.length := hi; subst e34; subst e32; rw [sI_w, if_neg (by omega), sI_w, if_neg (show ¬ (a = 148 ∧ i = rs1.length) by omega)]), ps30.2.2.1.fr (by subst e34; subst e32; rfl) (fun i hi => by subst e34; subst e32; rfl), ps30.2.2.2.1.fr (by subst e34; subst e32; rfl) (fun a i _ _ _ => by subst e34; subst e32; rw [sI_w, if_neg (by omega), sI_w, if_neg (by omega)]) (fun i hi => by subst e34; subst e32; rfl), ps30.2.2.2.2.1.fr (by subst e34; subst e32; rfl) (fun a i _ _ => by subst e34; subst e32; rw [sI_w, if_neg (by omega), sI_w, if_neg (by omega)]) (fun i hi => by subst e34; subst e32; rfl), ps30.2.2.2.2.2.fr (by subst e34; subst e32; rfl) (fun i _ => by subst e34; subst e32; rw [sI_w, if_neg (by omega), sI_w, if_neg (by omega)])⟩
          clear e34 e32 err
          rw [r34, nI_ix (by omega), q34]
          refine ⟨nI_inU (by omega) (by omega), ?_⟩
          have hgb : gs1.length ≤ 4 * rs1.length := by have : gs1.length ≤ 4 * (rs1.length + 0) := w16.1; omega
          have hlb : (lkOf (cs1, rs1, ns, [], gs1)).length ≤ 5 * (rs1.length + 0) := lkOf_len w16
          -- behind the guards, with a fault
          have err : ∀ (e : Nat × Nat) (s36 : yS), R = .error e → frM dG s34 s36 → erM s36 n e →
              (vp_in (sI s36 139 25) 24 ∧ 
           vp_in (sI s36 139 25) 24 ∧ ∀ s39 : yS, s39 = wI s36 150 (ix (sI s36 139 25)) ((sI s36 139 41) - (sI s36 149 (ix (sI s36 139 25)))) → 
           ∀ s40 : yS, s40 = wI s39 139 25 ((sI s39 139 25) + 1) → 
           ∀ x41 : Int32, x41 = (nI i + 1) → 
           W_X12_expect s40 1 
           (fun s42 => P135 x41 s42)) := by
            intro e s36 hRe F36 e36
            have r36 : (sI s36 139 25) = nI rs1.length := (F36.1 _ _ (by unfold dG; omega)).trans r34
            rw [r36, nI_ix (by omega)]
            refine ⟨nI_inU (by omega) (by omega), nI_inU (by omega) (by omega), ?_⟩
            intro s39 e39 s40 e40 x41 e41
            have er40 : erM s40 n e := e36.nx (fun i hi => by subst e40; subst e39; rw [sI_w, if_neg (by omega), sI_w, if_neg (by omega)])
            have F40 : frM dP s s40 := by subst e40; subst e39; exact ((F34.trans (F36.mono dGP)).wI (by unfold dP; omega)).wI (by unfold dP; omega)
            exact k_expectE er40 (hE _ s40 e hRe F40 er40)
          refine k_readGuards (F := F) (h.pf F34) c34 (o19.s hq2) ps34.2.2.2.2.1 (by show gs1.length + 4 ≤ 900; omega) ps34.2.2.2.2.2 (by omega) hF (fun gs' j3 hg' o3' hk3 m hm hgl' hx s36 F36 c36 g36 l36 => ?_) (fun gs' j3 hg' hk3 s36 F36 e36 => ?_) (fun e he s36 F36 e36 => ?_)
          · have hg' : pGuards (tkJ T n) F 4 gs1 (j1 + 1 + 1 + 1) = .ok (gs', j3) := hg'
            rw [hg'] at hR
            dsimp only at hR
            have hgl' : gs'.length = gs1.length + m := hgl'
            have FP36 := F34.trans (F36.mono dGP)
            have r36 : (sI s36 139 25) = nI rs1.length := (F36.1 _ _ (by unfold dG; omega)).trans r34
            have q36 : sI s36 148 rs1.length = Int32.ofInt q := (F36.1 _ _ (by unfold dG; omega)).trans q34
            have f36 : sI s36 149 rs1.length = nI gs1.length := (F36.1 _ _ (by unfold dG; omega)).trans f34
            have v36 : (sI s36 146) rs1.length = nI cs.length ∧ (sI s36 147) rs1.length = bI (isW (tkJ T n (j1 + 1)) 2) := by
              rw [F36.1 _ _ (by unfold dG; omega), F36.1 _ _ (by unfold dG; omega)]; exact v34
            rw [r36, nI_ix (by omega), f36, g36.1]
            have hsub : nI gs'.length - nI gs1.length = nI (gs'.length - gs1.length) := nI_sub (by omega)
            rw [hsub]
            refine ⟨nI_inU (by omega) (by omega), nI_inU (by omega) (by omega), ?_⟩
            intro s39 e39 s40 e40 x41 e41
            subst e41; rw [nI_s]
            have r39 : (sI s39 139 25) = nI rs1.length := by subst e39; exact r36
            rw [r39, nI_s] at e40
            have F40 : frM dP s s40 := by subst e40; subst e39; exact (FP36.wI (by unfold dP; omega)).wI (by unfold dP; omega)
            have c40 : cuM s40 T n j3 := c36.fr (fun i hi => by subst e40; subst e39; rw [sI_w, if_neg (by omega), sI_w, if_neg (by omega)]) (fun i hi => by subst e40; subst e39; rfl)
            generalize hrl : ((cs.length, isW (tkJ T n (j1 + 1)) 2, q, gs1.length, gs'.length - gs1.length) : Rl) = rl at hR
            have wf40 : wfP (cs1, rs1 ++ [rl], ns, [], gs') := by
              refine ⟨?_, fun r' hr' => ?_, fun w hw => absurd hw (by unfold pW; simp), w16.2.2.2⟩
              · show gs'.length ≤ 4 * ((rs1 ++ [rl]).length + 0); rw [List.length_append]; show _ ≤ 4 * (rs1.length + 1 + 0); omega
              · show rM r' ≤ 4 ∧ rF r' + rM r' ≤ gs'.length
                have hr' : r' ∈ rs1 ++ [rl] := hr'
                rw [List.mem_append] at hr'
                rcases hr' with hr' | hr'
                · have := w16.2.1 r' hr'
                  have h1 : rM r' ≤ 4 := this.1
                  have h2 : rF r' + rM r' ≤ gs1.length := this.2
                  omega
                · rw [List.mem_singleton] at hr'; rw [hr', ← hrl]; unfold rM rF; dsimp only; omega
            have ps40 : psM s40 (cs1, rs1 ++ [rl], ns, [], gs') := by
              have p36c : csM s36 cs1 := ps34.1.gf F36
              have p36r : rsM s36 rs1 := ps34.2.1.gf F36
              have p36n : nsM s36 ns := ps34.2.2.1.gf F36
              have p36w : wsM s36 [] := ps34.2.2.2.1.gf F36
              refine ⟨p36c.fr (by subst e40; subst e39; rfl) (fun i _ => by subst e40; subst e39; rw [sI_w, if_neg (by omega), sI_w, if_neg (by omega)]) (fun i hi => by subst e40; subst e39; rfl), ⟨?_, fun k hk' => ?_⟩, p36n.fr (by subst e40; subst e39; rfl) (fun i hi => by subst e40; subst e39; rfl), p36w.fr (by subst e40; subst e39; rfl) (fun a i _ _ _ => by subst e40; subst e39; rw [sI_w, if_neg (by omega), sI_w, if_neg (by omega)]) (fun i hi => by subst e40; subst e39; rfl), g36.fr (by subst e40; subst e39; rfl) (fun a i _ _ => by subst e40; subst e39; rw [sI_w, if_neg (by omega), sI_w, if_neg (by omega)]) (fun i hi => by subst e40; subst e39; rfl), ?_⟩
              · show (sI s40 139 25) = nI (rs1 ++ [rl]).length
                rw [List.length_append]; subst e40; rw [sI_w, if_pos ⟨rfl, rfl⟩]; rfl
              · have hk' : k < (rs1 ++ [rl]).length := hk'
                show rs1r s40 k (rs1 ++ [rl])[k]
                rw [List.length_append] at hk'
                have hk' : k < rs1.length + 1 := hk'
                by_cases ck : k = rs1.length
                · subst ck
                  rw [List.getElem_append_right (by omega)]
                  simp only [Nat.sub_self, List.getElem_cons_zero]
                  rw [← hrl]
                  unfold rs1r rO rU rC rF rM
                  dsimp only
                  subst e40; subst e39
                  refine ⟨?_, ?_, ?_, ?_, ?_⟩
                  · rw [sI_w, if_neg (by omega), sI_w, if_neg (by omega)]; exact v36.1
                  · rw [sI_w, if_neg (by omega), sI_w, if_neg (by omega)]; exact v36.2
                  · rw [sI_w, if_neg (by omega), sI_w, if_neg (by omega)]; exact q36
                  · rw [sI_w, if_neg (by omega), sI_w, if_neg (by omega)]; exact f36
                  · rw [sI_w, if_neg (by omega), sI_w, if_pos ⟨rfl, rfl⟩]
                · have := p36r.2 k (by omega)
                  rw [List.getElem_append_left (by omega)]
                  unfold rs1r at this ⊢
                  subst e40; subst e39
                  simp only [sI_w]
                  rw [if_neg (by omega), if_neg (by omega), if_neg (by omega), if_neg (by omega), if_neg (by omega), if_neg (by omega), if_neg (by omega), if_neg (by omega), if_neg (by omega), if_neg (by omega)]
                  exact this
              · obtain ⟨x, hx⟩ := hx
                have hx : gs' = gs1 ++ x := hx
                have e5 : lkOf (cs1, rs1 ++ [rl], ns, [], gs') = lkOf (cs1, rs1, ns, [], gs1) ++ (List.range' gs1.length m).map (lkG gs' q) := by
                  rw [lkOf_rule, hx, lkOf_ext w16, ← hx]
                  congr 1
                  unfold lkR; rw [← hrl]; unfold rF rM rC; dsimp only
                  rw [show gs'.length - gs1.length = m by omega]
                rw [e5]
                exact l36.fr (by subst e40; subst e39; rfl) (fun i _ => by subst e40; subst e39; rw [sI_w, if_neg (by omega), sI_w, if_neg (by omega)])
            clear e40 e39
            refine k_expect (h.pf F40) c40 (Or.inr ⟨rfl, rfl⟩) (fun h3 s42 F42 c42 => ?_) (fun h3 s42 F42 e42 => ?_)
            · rw [if_pos h3] at hR
              exact ih (i + 1) (j3 + 1) _ _ s42 (by omega) (o3'.s (by omega)) (F40.trans (F42.fr dP_nx)) c42 (ps40.nx F42) wf40 (by rw [List.length_append]; show rs1.length + 1 = _; omega) hR
            · rw [if_neg h3] at hR
              exact hE _ s42 _ hR (F40.trans (F42.fr dP_nx)) e42
          · have hg' : pGuards (tkJ T n) F 4 gs1 (j1 + 1 + 1 + 1) = .ok (gs', j3) := hg'
            rw [hg'] at hR
            dsimp only at hR
            rw [if_neg (by omega)] at hR
            exact err _ s36 hR F36 e36
          · have he : pGuards (tkJ T n) F 4 gs1 (j1 + 1 + 1 + 1) = .error e := he
            rw [he] at hR
            exact err _ s36 hR F36 e36
        · rw [he] at hR
          exact err e 0 s30 hR (FP28.trans (F30.fr dP_nx)) ((F30.f _ (by omega)).trans r28) e30
      refine ⟨fun hz => good (Or.inl (by rw [hr19] at hz; exact if1 hz)), fun hz => k_isWord c18 (by omega) (fun r43 _ hr43 => ?_)⟩
      have hr43 := hr43 hk1
      have f2 : isW (tkJ T n (j1 + 1)) 2 = false := by rw [hr19] at hz; exact if0 hz
      refine ⟨fun hz2 => bad ?_ _ (Or.inl rfl), fun hz2 => good (Or.inr (by rw [hr43] at hz2; exact if1 hz2))⟩
      have f3 : isW (tkJ T n (j1 + 1)) 3 = false := by rw [hr43] at hz2; exact if0 hz2
      rw [f2, f3]; simp
    · rw [if_neg h2] at hR
      have hP := hP318 (fin i j1 rs1 gs1 s16 (by omega) o1 F16 c16 p16 w16 hl16 h2 hR)
      refine ⟨fun _ => hP, fun hb => ⟨fun _ => hP, fun hh => ?_⟩⟩
      have hk1 : tkK (tkJ T n j1) ≠ 1 := by
        intro hk; have := (c16.2.2.1 hk).1; rw [hb] at this; exact absurd this (by decide)
      exact absurd ((c16.t0 hk1).mp hh) h2
end

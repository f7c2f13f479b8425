/-! ===== PURE: what a text that is read brings ===== -/
def gdOK (d : Gd) : Prop := (gC d = false → gW d ≤ 2) ∧ (gC d = true → gW d = 0 ∧ isNm (gN' d)) ∧ gH d ≤ 2 ∧ -2147483648 ≤ gV d ∧ gV d ≤ 2147483647
section
variable {T : Nat → Nat} {n : Nat}
theorem pCall_ok {j : Nat} {q : Int} {j' : Nat} (h : pCall (tkJ T n) j = .ok (q, j')) : -1 ≤ q ∧ q ≤ 15 ∧ j' = j + 1 ∧ 2 ≤ tkK (tkJ T n j) := by
  unfold pCall at h
  split at h
  · rename_i hw
    simp at h; unfold isW at hw; simp at hw; omega
  · split at h
    · simp at h; omega
    · simp at h
theorem pGuard_ok {F j : Nat} {g : Gd} {j' : Nat} (h : pGuard (tkJ T n) F j = .ok (g, j')) : gdOK g := by
  unfold pGuard at h
  split at h
  · simp at h
  · rename_i k j1 _
    split at h
    · simp at h
    · rename_i c w nm pl hs
      split at h
      · simp at h
      · rename_i hw hh
        split at h
        · simp at h
        · rename_i v hv
          split at h
          · simp at h
          · simp at h
            obtain ⟨h1, _⟩ := h
            subst h1
            unfold gdOK gC gW gN' gH gV
            dsimp only
            refine ⟨?_, ?_, ?_, ?_⟩
            · intro hc; subst hc
              unfold pSubj at hs
              split at hs
              · split at hs
                · simp at hs; omega
                · simp at hs
              · split at hs
                · split at hs
                  · simp at hs
                  · simp at hs
                · simp at hs
            · intro hc; subst hc
              unfold pSubj at hs
              split at hs
              · split at hs
                · simp at hs
                · simp at hs
              · split at hs
                · split at hs
                  · rename_i h5
                    simp at hs
                    refine ⟨by omega, ?_⟩
                    rw [← hs.2.1]
                    exact (tkJ_cases T n (j1 + 1)).2.2.2.2.1 (Or.inl h5)
                  · simp at hs
                · simp at hs
            · unfold pHow at hh
              split at hh
              · simp at hh; omega
              · split at hh
                · simp at hh; omega
                · split at hh
                  · simp at hh; omega
                  · simp at hh
            · unfold pNum at hv
              split at hv
              · rename_i h4
                simp at hv
                have := (tkJ_cases T n (j1 + 3)).2.2.2.2.2.2.2.1 h4
                omega
              · simp at hv
theorem pGuards_ok {F : Nat} : ∀ (r : Nat) (gs : List Gd) (j : Nat) (gs' : List Gd) (j' : Nat), pGuards (tkJ T n) F r gs j = .ok (gs', j') → ∃ x, gs' = gs ++ x ∧ x.length ≤ r ∧ ∀ d ∈ x, gdOK d
  | 0, gs, j, gs', j', h => by
    rw [pGuards] at h; simp at h
    exact ⟨[], by simp [h.1], by simp, by simp⟩
  | r + 1, gs, j, gs', j', h => by
    rw [pGuards] at h
    split at h
    · split at h
      · simp at h
      · rename_i g j1 hg
        obtain ⟨x, h1, h2, h3⟩ := pGuards_ok r _ _ _ _ h
        refine ⟨g :: x, by rw [h1]; simp, by simp; omega, fun d hd => ?_⟩
        rw [List.mem_cons] at hd
        rcases hd with hd | hd
        · rw [hd]; exact pGuard_ok hg
        · exact h3 d hd
    · simp at h
      exact ⟨[], by simp [h.1], by simp, by simp⟩
/-- what keeps a property -/
def keepR (I : PS → Prop) : Prop := ∀ ps up q x, I ps → pN ps = [] → 1 ≤ (pC ps).length → -1 ≤ q → q ≤ 15 → x.length ≤ 4 → (∀ d ∈ x, gdOK d) → I (pC ps, pR ps ++ [((pC ps).length - 1, up, q, (pG ps).length, x.length)], pN ps, pW ps, pG ps ++ x)
def keepW (I : PS → Prop) : Prop := ∀ ps q x nm pl, I ps → 1 ≤ (pN ps).length → -1 ≤ q → q ≤ 15 → x.length ≤ 4 → (∀ d ∈ x, gdOK d) → isNm nm → I (pC ps, pR ps, pN ps, pW ps ++ [((pN ps).length - 1, q, (pG ps).length, x.length, nm, pl)], pG ps ++ x)
def keepC (I : PS → Prop) : Prop := ∀ ps nm v, I ps → pN ps = [] → isNm nm → ¬ nm ∈ (pC ps).map Prod.fst → 1 ≤ v → v ≤ 15 → I (pC ps ++ [(nm, v)], pR ps, pN ps, pW ps, pG ps)
def keepN (I : PS → Prop) : Prop := ∀ ps nm, I ps → isNm nm → ¬ nm ∈ pN ps → I (pC ps, pR ps, pN ps ++ [nm], pW ps, pG ps)
theorem pRules_ind {I : PS → Prop} (hr : keepR I) {F c : Nat} : ∀ (r : Nat) (ps : PS) (j : Nat) (ps' : PS) (j' : Nat), pRules (tkJ T n) F c r ps j = .ok (ps', j') → c + 1 = (pC ps).length → pN ps = [] → I ps → I ps' ∧ pC ps' = pC ps ∧ pN ps' = pN ps ∧ pW ps' = pW ps ∧ (pR ps').length ≤ (pR ps).length + r
  | 0, ps, j, ps', j', h, hc, hN, hI => by
    rw [pRules] at h; split at h
    · simp at h; rw [← h.1]; exact ⟨hI, rfl, rfl, rfl, by omega⟩
    · simp at h
  | r + 1, ps, j, ps', j', h, hc, hN, hI => by
    rw [pRules] at h
    split at h
    · split at h
      · simp at h
      · rename_i ps1 j1 h1
        unfold pRule at h1
        split at h1
        · split at h1
          · simp at h1
          · rename_i q j2 hq
            split at h1
            · simp at h1
            · rename_i gs j3 hg
              split at h1
              · simp at h1
                obtain ⟨x, hx1, hx2, hx3⟩ := pGuards_ok _ _ _ _ _ hg
                have hq := pCall_ok hq
                have hI1 := hr ps (isW (tkJ T n (j + 1)) 2) q x hI hN (by omega) hq.1 hq.2.1 hx2 hx3
                have e : ps1 = (pC ps, pR ps ++ [((pC ps).length - 1, isW (tkJ T n (j + 1)) 2, q, (pG ps).length, x.length)], pN ps, pW ps, pG ps ++ x) := by
                  rw [← h1.1, hx1, ← hc]; simp
                obtain ⟨a1, a2, a3, a4, a5⟩ := pRules_ind hr r ps1 j1 ps' j' h (by rw [e]; exact hc) (by rw [e]; exact hN) (by rw [e]; exact hI1)
                refine ⟨a1, by rw [a2, e]; rfl, by rw [a3, e]; rfl, by rw [a4, e]; rfl, ?_⟩
                have : (pR ps1).length = (pR ps).length + 1 := by rw [e]; unfold pR; simp
                omega
              · simp at h1
        · simp at h1
    · split at h
      · simp at h; rw [← h.1]; exact ⟨hI, rfl, rfl, rfl, by omega⟩
      · simp at h
theorem pWays_ind {I : PS → Prop} (hw : keepW I) {F c : Nat} : ∀ (r : Nat) (ps : PS) (j : Nat) (ps' : PS) (j' : Nat), pWays (tkJ T n) F c r ps j = .ok (ps', j') → c + 1 = (pN ps).length → I ps → I ps' ∧ pC ps' = pC ps ∧ pN ps' = pN ps ∧ pR ps' = pR ps ∧ (pW ps').length ≤ (pW ps).length + r
  | 0, ps, j, ps', j', h, hc, hI => by
    rw [pWays] at h; split at h
    · simp at h; rw [← h.1]; exact ⟨hI, rfl, rfl, rfl, by omega⟩
    · simp at h
  | r + 1, ps, j, ps', j', h, hc, hI => by
    rw [pWays] at h
    split at h
    · split at h
      · simp at h
      · rename_i ps1 j1 h1
        unfold pWay at h1
        split at h1
        · split at h1
          · simp at h1
          · rename_i q j2 hq
            split at h1
            · simp at h1
            · rename_i gs j3 hg
              split at h1
              · rename_i h5
                split at h1
                · simp at h1
                  obtain ⟨x, hx1, hx2, hx3⟩ := pGuards_ok _ _ _ _ _ hg
                  have hq := pCall_ok hq
                  have hI1 := hw ps q x (tkN (tkJ T n j3)) (tkP (tkJ T n j3)) hI (by omega) hq.1 hq.2.1 hx2 hx3 ((tkJ_cases T n j3).2.2.2.2.1 (Or.inl h5))
                  have e : ps1 = (pC ps, pR ps, pN ps, pW ps ++ [((pN ps).length - 1, q, (pG ps).length, x.length, tkN (tkJ T n j3), tkP (tkJ T n j3))], pG ps ++ x) := by
                    rw [← h1.1, hx1, ← hc]; simp
                  obtain ⟨a1, a2, a3, a4, a5⟩ := pWays_ind hw r ps1 j1 ps' j' h (by rw [e]; exact hc) (by rw [e]; exact hI1)
                  refine ⟨a1, by rw [a2, e]; rfl, by rw [a3, e]; rfl, by rw [a4, e]; rfl, ?_⟩
                  have : (pW ps1).length = (pW ps).length + 1 := by rw [e]; unfold pW; simp
                  omega
                · simp at h1
              · simp at h1
        · simp at h1
    · split at h
      · simp at h; rw [← h.1]; exact ⟨hI, rfl, rfl, rfl, by omega⟩
      · simp at h
theorem pCounter_ind {I : PS → Prop} (hr : keepR I) (hc : keepC I) {F : Nat} {ps : PS} {j : Nat} {ps' : PS} {j' : Nat} (h : pCounter (tkJ T n) F ps j = .ok (ps', j')) (hN : pN ps = []) (hI : I ps) : I ps' ∧ pN ps' = pN ps ∧ pW ps' = pW ps ∧ (pC ps').length = (pC ps).length + 1 ∧ (pR ps').length ≤ (pR ps).length + 4 := by
  unfold pCounter at h
  split at h
  · rename_i h5
    split at h
    · have hnm := (tkJ_cases T n j).2.2.2.2.1 (Or.inl h5.1)
      obtain ⟨a1, a2, a3, a4, a5⟩ := pRules_ind hr 4 _ _ _ _ h (by unfold pC; simp) hN (hc ps _ _ hI hN hnm h5.2 (by omega) (by omega))
      exact ⟨a1, a3, a4, by rw [a2]; unfold pC; simp, a5⟩
    · simp at h
  · simp at h
theorem pNode_ind {I : PS → Prop} (hw : keepW I) (hn : keepN I) {F : Nat} {ps : PS} {j : Nat} {ps' : PS} {j' : Nat} (h : pNode (tkJ T n) F ps j = .ok (ps', j')) (hI : I ps) : I ps' ∧ pC ps' = pC ps ∧ pR ps' = pR ps ∧ (pN ps').length = (pN ps).length + 1 ∧ (pW ps').length ≤ (pW ps).length + 8 := by
  unfold pNode at h
  split at h
  · rename_i h5
    have hnm := (tkJ_cases T n j).2.2.2.2.1 (Or.inl h5.1)
    obtain ⟨a1, a2, a3, a4, a5⟩ := pWays_ind hw 8 _ _ _ _ h (by unfold pN; simp) (hn ps _ hI hnm h5.2)
    exact ⟨a1, a2, a4, by rw [a3]; unfold pN; simp, a5⟩
  · simp at h
theorem pTop_ind {I : PS → Prop} (hr : keepR I) (hc : keepC I) (hw : keepW I) (hn : keepN I) {F N : Nat} : ∀ (f : Nat) (ps : PS) (j : Nat) (ps' : PS), pTop (tkJ T n) F N f ps j = .ok ps' → I ps → I ps' ∧ pN ps' ≠ []
  | 0, ps, j, ps', h, hI => by rw [pTop] at h; simp at h
  | f + 1, ps, j, ps', h, hI => by
    rw [pTop] at h
    split at h
    · split at h
      · simp at h
      · rename_i hne; simp at h; rw [← h]; exact ⟨hI, hne⟩
    · split at h
      · split at h
        · cases hp : pNode (tkJ T n) F ps (j + 2) with
          | error e => rw [hp] at h; simp at h
          | ok v =>
            obtain ⟨ps1, j1⟩ := v
            rw [hp] at h
            exact pTop_ind hr hc hw hn f ps1 j1 ps' h (pNode_ind hw hn hp hI).1
        · split at h
          · rename_i hcc
            cases hp : pCounter (tkJ T n) F ps (j + 2) with
            | error e => rw [hp] at h; simp at h
            | ok v =>
              obtain ⟨ps1, j1⟩ := v
              rw [hp] at h
              exact pTop_ind hr hc hw hn f ps1 j1 ps' h (pCounter_ind hr hc hp hcc.2.1 hI).1
          · simp at h
      · simp at h

/-- how many there are -/
def lenP (ps : PS) : Prop := (pC ps).length ≤ 6 ∧ (pR ps).length ≤ 4 * (pC ps).length ∧ (pN ps).length ≤ 24 ∧ (pW ps).length ≤ 8 * (pN ps).length
theorem pTop_len {F N : Nat} : ∀ (f : Nat) (ps : PS) (j : Nat) (ps' : PS), pTop (tkJ T n) F N f ps j = .ok ps' → lenP ps → lenP ps'
  | 0, ps, j, ps', h, hI => by rw [pTop] at h; simp at h
  | f + 1, ps, j, ps', h, hI => by
    have tR : keepR (fun _ => True) := fun _ _ _ _ _ _ _ _ _ _ _ => trivial
    have tC : keepC (fun _ => True) := fun _ _ _ _ _ _ _ _ _ => trivial
    have tW : keepW (fun _ => True) := fun _ _ _ _ _ _ _ _ _ _ _ _ => trivial
    have tN : keepN (fun _ => True) := fun _ _ _ _ _ => trivial
    obtain ⟨l1, l2, l3, l4⟩ := hI
    rw [pTop] at h
    split at h
    · split at h
      · simp at h
      · simp at h; rw [← h]; exact ⟨l1, l2, l3, l4⟩
    · split at h
      · rename_i h24
        split at h
        · cases hp : pNode (tkJ T n) F ps (j + 2) with
          | error e => rw [hp] at h; simp at h
          | ok v =>
            obtain ⟨ps1, j1⟩ := v
            rw [hp] at h
            have := pNode_ind tW tN hp trivial
            refine pTop_len f ps1 j1 ps' h ⟨by rw [this.2.1]; exact l1, by rw [this.2.1, this.2.2.1]; exact l2, by omega, by omega⟩
        · split at h
          · rename_i hcc
            cases hp : pCounter (tkJ T n) F ps (j + 2) with
            | error e => rw [hp] at h; simp at h
            | ok v =>
              obtain ⟨ps1, j1⟩ := v
              rw [hp] at h
              have := pCounter_ind tR tC hp hcc.2.1 trivial
              refine pTop_len f ps1 j1 ps' h ⟨by omega, by omega, by rw [this.2.1]; exact l3, by rw [this.2.1, this.2.2.1]; exact l4⟩
          · simp at h
      · simp at h
/-- a clause: call, first guard, how many -/
def qL (ps : PS) : List (Int × Nat × Nat) := (pR ps).map (fun r => (rC r, rF r, rM r)) ++ (pW ps).map (fun w => (wCl w, wF w, wM w))
/-- clauses' guards lie one behind the other -/
def chn : List (Int × Nat × Nat) → Nat → Nat → Prop
  | [], a, b => a = b
  | q :: l, a, b => q.2.1 = a ∧ chn l (a + q.2.2) b
theorem chn_app : ∀ (l : List (Int × Nat × Nat)) (a b : Nat) (q : Int × Nat × Nat), chn l a b → q.2.1 = b → chn (l ++ [q]) a (b + q.2.2)
  | [], a, b, q, h, hq => by
    have h : a = b := h
    subst h; exact ⟨hq, rfl⟩
  | p :: l, a, b, q, h, hq => ⟨h.1, chn_app l _ b q h.2 hq⟩
theorem chn_le : ∀ (l : List (Int × Nat × Nat)) (a b : Nat), chn l a b → a ≤ b ∧ ∀ q ∈ l, a ≤ q.2.1 ∧ q.2.1 + q.2.2 ≤ b
  | [], a, b, h => by
    have h : a = b := h
    exact ⟨by omega, by simp⟩
  | p :: l, a, b, h => by
    obtain ⟨h1, h2⟩ := h
    have ih := chn_le l _ b h2
    refine ⟨by omega, fun q hq => ?_⟩
    rw [List.mem_cons] at hq
    rcases hq with hq | hq
    · subst hq; omega
    · have := ih.2 q hq; omega
def wfI (ps : PS) : Prop := ((pC ps).map Prod.fst).Nodup ∧ (pN ps).Nodup ∧ (∀ c ∈ pC ps, isNm c.1 ∧ 1 ≤ c.2 ∧ c.2 ≤ 15) ∧ (∀ x ∈ pN ps, isNm x) ∧ (∀ d ∈ pG ps, gdOK d)
  ∧ (∀ r ∈ pR ps, rO r < (pC ps).length ∧ -1 ≤ rC r ∧ rC r ≤ 15 ∧ rM r ≤ 4) ∧ (∀ w ∈ pW ps, wO w < (pN ps).length ∧ -1 ≤ wCl w ∧ wCl w ≤ 15 ∧ wM w ≤ 4 ∧ isNm (wN w))
  ∧ chn (qL ps) 0 (pG ps).length ∧ (pR ps).Pairwise (fun a b => rO a ≤ rO b) ∧ (pW ps).Pairwise (fun a b => wO a ≤ wO b) ∧ (pN ps = [] → pW ps = [])
theorem wfI_R : keepR wfI := by
  intro ps up q x h hN hc hq1 hq2 hx hxd
  obtain ⟨h1, h2, h3, h4, h5, h6, h7, h8, h9, h10, h11⟩ := h
  have hW := h11 hN
  refine ⟨h1, h2, h3, h4, fun d hd => ?_, fun r hr => ?_, h7, ?_, ?_, h10, h11⟩
  · have hd : d ∈ pG ps ++ x := hd
    rw [List.mem_append] at hd
    rcases hd with hd | hd
    · exact h5 d hd
    · exact hxd d hd
  · have hr : r ∈ pR ps ++ _ := hr
    rw [List.mem_append, List.mem_singleton] at hr
    rcases hr with hr | hr
    · exact h6 r hr
    · subst hr; exact ⟨by show (pC ps).length - 1 < (pC ps).length; omega, hq1, hq2, hx⟩
  · show chn ((pR ps ++ _).map _ ++ (pW ps).map _) 0 (pG ps ++ x).length
    unfold qL at h8
    rw [hW] at h8 ⊢
    rw [List.map_append, List.length_append]
    simp only [List.map_nil, List.append_nil] at h8 ⊢
    exact chn_app _ _ _ _ h8 rfl
  · show (pR ps ++ _).Pairwise _
    rw [List.pairwise_append]
    refine ⟨h9, by simp, fun a ha b hb => ?_⟩
    rw [List.mem_singleton] at hb; subst hb
    have := (h6 a ha).1
    show rO a ≤ (pC ps).length - 1; omega
theorem wfI_W : keepW wfI := by
  intro ps q x nm pl h hn hq1 hq2 hx hxd hnm
  obtain ⟨h1, h2, h3, h4, h5, h6, h7, h8, h9, h10, h11⟩ := h
  refine ⟨h1, h2, h3, h4, fun d hd => ?_, h6, fun w hw => ?_, ?_, h9, ?_, ?_⟩
  · have hd : d ∈ pG ps ++ x := hd
    rw [List.mem_append] at hd
    rcases hd with hd | hd
    · exact h5 d hd
    · exact hxd d hd
  · have hw : w ∈ pW ps ++ _ := hw
    rw [List.mem_append, List.mem_singleton] at hw
    rcases hw with hw | hw
    · exact h7 w hw
    · subst hw; exact ⟨by show (pN ps).length - 1 < (pN ps).length; omega, hq1, hq2, hx, hnm⟩
  · show chn ((pR ps).map _ ++ (pW ps ++ _).map _) 0 (pG ps ++ x).length
    unfold qL at h8
    rw [List.map_append, List.length_append, ← List.append_assoc]
    exact chn_app _ _ _ _ h8 rfl
  · show (pW ps ++ _).Pairwise _
    rw [List.pairwise_append]
    refine ⟨h10, by simp, fun a ha b hb => ?_⟩
    rw [List.mem_singleton] at hb; subst hb
    have := (h7 a ha).1
    show wO a ≤ (pN ps).length - 1; omega
  · intro hN; have hN : pN ps = [] := hN; rw [hN] at hn; simp at hn
theorem nodup_snoc {α : Type} {l : List α} {a : α} (h : l.Nodup) (ha : ¬ a ∈ l) : (l ++ [a]).Nodup := by
  rw [List.nodup_append]
  refine ⟨h, by simp, fun x hx y hy e => ?_⟩
  rw [List.mem_singleton] at hy; subst hy; subst e; exact ha hx
theorem wfI_C : keepC wfI := by
  intro ps nm v h hN hnm hin hv1 hv2
  obtain ⟨h1, h2, h3, h4, h5, h6, h7, h8, h9, h10, h11⟩ := h
  refine ⟨?_, h2, fun c hc => ?_, h4, h5, fun r hr => ?_, h7, h8, h9, h10, h11⟩
  · show ((pC ps ++ [(nm, v)]).map Prod.fst).Nodup
    rw [List.map_append]; exact nodup_snoc h1 hin
  · have hc : c ∈ pC ps ++ [(nm, v)] := hc
    rw [List.mem_append, List.mem_singleton] at hc
    rcases hc with hc | hc
    · exact h3 c hc
    · subst hc; exact ⟨hnm, hv1, hv2⟩
  · have := h6 r hr
    refine ⟨?_, this.2⟩
    show rO r < (pC ps ++ [(nm, v)]).length
    rw [List.length_append]; have := this.1; omega
theorem wfI_N : keepN wfI := by
  intro ps nm h hnm hin
  obtain ⟨h1, h2, h3, h4, h5, h6, h7, h8, h9, h10, h11⟩ := h
  refine ⟨h1, nodup_snoc h2 hin, h3, fun c hc => ?_, h5, h6, fun w hw => ?_, h8, h9, h10, fun hN => ?_⟩
  · have hc : c ∈ pN ps ++ [nm] := hc
    rw [List.mem_append, List.mem_singleton] at hc
    rcases hc with hc | hc
    · exact h4 c hc
    · subst hc; exact hnm
  · have := h7 w hw
    refine ⟨?_, this.2⟩
    show wO w < (pN ps ++ [nm]).length
    rw [List.length_append]; have := this.1; omega
  · have hN : pN ps ++ [nm] = [] := hN
    simp at hN
def ps0 : PS := ([], [], [], [], [])
theorem wfI_0 : wfI ps0 := by unfold wfI ps0 pC pR pN pW pG qL; simp [chn, pR, pW]
theorem lenP_0 : lenP ps0 := by unfold lenP ps0 pC pR pN pW; simp
theorem pTop_wf {F N f j : Nat} {ps : PS} (h : pTop (tkJ T n) F N f ps0 j = .ok ps) : wfI ps ∧ lenP ps ∧ pN ps ≠ [] :=
  ⟨(pTop_ind wfI_R wfI_C wfI_W wfI_N f _ _ _ h wfI_0).1, pTop_len f _ _ _ h lenP_0, (pTop_ind wfI_R wfI_C wfI_W wfI_N f _ _ _ h wfI_0).2⟩
end

/-! ===== PURE: what a text that is read brings ===== -/
def gdOK (d : Gd) : Prop := (gC d = false → gW d ≤ 2) ∧ (gC d = true → gW d = 0 ∧ isNm (gN' d)) ∧ gH d ≤ 2 ∧ -2147483648 ≤ gV d ∧ gV d ≤ 2147483647
section
variable {T : Nat → Nat} {n : Nat}
theorem pCall_ok {j : Nat} {q : Int} {j' : Nat} (h : pCall (tkJ T n) j = .ok (q, j')) : -1 ≤ q ∧ q ≤ 15 ∧ j' = j + 1 ∧ 2 ≤ tkK (tkJ T n j) := by
  unfold pCall at h
  split at h
  · rename_i hw
    simp at h; unfold isW at hw; simp at hw; omega
  · split at h
    · simp at h; omega
    · simp at h
theorem pGuard_ok {F j : Nat} {g : Gd} {j' : Nat} (h : pGuard (tkJ T n) F j = .ok (g, j')) : gdOK g := by
  unfold pGuard at h
  split at h
  · simp at h
  · rename_i k j1 _
    split at h
    · simp at h
    · rename_i c w nm pl hs
      split at h
      · simp at h
      · rename_i hw hh
        split at h
        · simp at h
        · rename_i v hv
          split at h
          · simp at h
          · simp at h
            obtain ⟨h1, _⟩ := h
            subst h1
            unfold gdOK gC gW gN' gH gV
            dsimp only
            refine ⟨?_, ?_, ?_, ?_⟩
            · intro hc; subst hc
              unfold pSubj at hs
              split at hs
              · split at hs
                · simp at hs; omega
                · simp at hs
              · split at hs
                · split at hs
                  · simp at hs
                  · simp at hs
                · simp at hs
            · intro hc; subst hc
              unfold pSubj at hs
              split at hs
              · split at hs
                · simp at hs
                · simp at hs
              · split at hs
                · split at hs
                  · rename_i h5
                    simp at hs
                    refine ⟨by omega, ?_⟩
                    rw [← hs.2.1]
                    exact (tkJ_cases T n (j1 + 1)).2.2.2.2.1 (Or.inl h5)
                  · simp at hs
                · simp at hs
            · unfold pHow at hh
              split at hh
              · simp at hh; omega
              · split at hh
                · simp at hh; omega
                · split at hh
                  · simp at hh; omega
                  · simp at hh
            · unfold pNum at hv
              split at hv
              · rename_i h4
                simp at hv
                have := (tkJ_cases T n (j1 + 3)).2.2.2.2.2.2.2.1 h4
                omega
              · simp at hv
theorem pGuards_ok {F : Nat} : ∀ (r : Nat) (gs : List Gd) (j : Nat) (gs' : List Gd) (j' : Nat), pGuards (tkJ T n) F r gs j = .ok (gs', j') → ∃ x, gs' = gs ++ x ∧ x.length ≤ r ∧ ∀ d ∈ x, gdOK d
  | 0, gs, j, gs', j', h => by
    rw [pGuards] at h; simp at h
    exact ⟨[], by simp [h.1], by simp, by simp⟩
  | r + 1, gs, j, gs', j', h => by
    rw [pGuards] at h
    split at h
    · split at h
      · simp at h
      · rename_i g j1 hg
        obtain ⟨x, h1, h2, h3⟩ := pGuards_ok r _ _ _ _ h
        refine ⟨g :: x, by rw [h1]; simp, by simp; omega, fun d hd => ?_⟩
        rw [List.mem_cons] at hd
        rcases hd with hd | hd
        · rw [hd]; exact pGuard_ok hg
        · exact h3 d hd
    · simp at h
      exact ⟨[], by simp [h.1], by simp, by simp⟩
/-- what keeps a property -/
def keepR (I : PS → Prop) : Prop := ∀ ps up q x, I ps → 1 ≤ (pC ps).length → -1 ≤ q → q ≤ 15 → x.length ≤ 4 → (∀ d ∈ x, gdOK d) → I (pC ps, pR ps ++ [((pC ps).length - 1, up, q, (pG ps).length, x.length)], pN ps, pW ps, pG ps ++ x)
def keepW (I : PS → Prop) : Prop := ∀ ps q x nm pl, I ps → 1 ≤ (pN ps).length → -1 ≤ q → q ≤ 15 → x.length ≤ 4 → (∀ d ∈ x, gdOK d) → isNm nm → I (pC ps, pR ps, pN ps, pW ps ++ [((pN ps).length - 1, q, (pG ps).length, x.length, nm, pl)], pG ps ++ x)
def keepC (I : PS → Prop) : Prop := ∀ ps nm v, I ps → pN ps = [] → isNm nm → ¬ nm ∈ (pC ps).map Prod.fst → 1 ≤ v → v ≤ 15 → I (pC ps ++ [(nm, v)], pR ps, pN ps, pW ps, pG ps)
def keepN (I : PS → Prop) : Prop := ∀ ps nm, I ps → isNm nm → ¬ nm ∈ pN ps → I (pC ps, pR ps, pN ps ++ [nm], pW ps, pG ps)
theorem pRules_ind {I : PS → Prop} (hr : keepR I) {F c : Nat} : ∀ (r : Nat) (ps : PS) (j : Nat) (ps' : PS) (j' : Nat), pRules (tkJ T n) F c r ps j = .ok (ps', j') → c + 1 = (pC ps).length → I ps → I ps' ∧ pC ps' = pC ps ∧ pN ps' = pN ps ∧ pW ps' = pW ps ∧ (pR ps').length ≤ (pR ps).length + r
  | 0, ps, j, ps', j', h, hc, hI => by
    rw [pRules] at h; split at h
    · simp at h; rw [← h.1]; exact ⟨hI, rfl, rfl, rfl, by omega⟩
    · simp at h
  | r + 1, ps, j, ps', j', h, hc, hI => by
    rw [pRules] at h
    split at h
    · split at h
      · simp at h
      · rename_i ps1 j1 h1
        unfold pRule at h1
        split at h1
        · split at h1
          · simp at h1
          · rename_i q j2 hq
            split at h1
            · simp at h1
            · rename_i gs j3 hg
              split at h1
              · simp at h1
                obtain ⟨x, hx1, hx2, hx3⟩ := pGuards_ok _ _ _ _ _ hg
                have hq := pCall_ok hq
                have hI1 := hr ps (isW (tkJ T n (j + 1)) 2) q x hI (by omega) hq.1 hq.2.1 hx2 hx3
                have e : ps1 = (pC ps, pR ps ++ [((pC ps).length - 1, isW (tkJ T n (j + 1)) 2, q, (pG ps).length, x.length)], pN ps, pW ps, pG ps ++ x) := by
                  rw [← h1.1, hx1, ← hc]; simp
                obtain ⟨a1, a2, a3, a4, a5⟩ := pRules_ind hr r ps1 j1 ps' j' h (by rw [e]; exact hc) (by rw [e]; exact hI1)
                refine ⟨a1, by rw [a2, e]; rfl, by rw [a3, e]; rfl, by rw [a4, e]; rfl, ?_⟩
                have : (pR ps1).length = (pR ps).length + 1 := by rw [e]; unfold pR; simp
                omega
              · simp at h1
        · simp at h1
    · split at h
      · simp at h; rw [← h.1]; exact ⟨hI, rfl, rfl, rfl, by omega⟩
      · simp at h
theorem pWays_ind {I : PS → Prop} (hw : keepW I) {F c : Nat} : ∀ (r : Nat) (ps : PS) (j : Nat) (ps' : PS) (j' : Nat), pWays (tkJ T n) F c r ps j = .ok (ps', j') → c + 1 = (pN ps).length → I ps → I ps' ∧ pC ps' = pC ps ∧ pN ps' = pN ps ∧ pR ps' = pR ps ∧ (pW ps').length ≤ (pW ps).length + r
  | 0, ps, j, ps', j', h, hc, hI => by
    rw [pWays] at h; split at h
    · simp at h; rw [← h.1]; exact ⟨hI, rfl, rfl, rfl, by omega⟩
    · simp at h
  | r + 1, ps, j, ps', j', h, hc, hI => by
    rw [pWays] at h
    split at h
    · split at h
      · simp at h
      · rename_i ps1 j1 h1
        unfold pWay at h1
        split at h1
        · split at h1
          · simp at h1
          · rename_i q j2 hq
            split at h1
            · simp at h1
            · rename_i gs j3 hg
              split at h1
              · rename_i h5
                split at h1
                · simp at h1
                  obtain ⟨x, hx1, hx2, hx3⟩ := pGuards_ok _ _ _ _ _ hg
                  have hq := pCall_ok hq
                  have hI1 := hw ps q x (tkN (tkJ T n j3)) (tkP (tkJ T n j3)) hI (by omega) hq.1 hq.2.1 hx2 hx3 ((tkJ_cases T n j3).2.2.2.2.1 (Or.inl h5))
                  have e : ps1 = (pC ps, pR ps, pN ps, pW ps ++ [((pN ps).length - 1, q, (pG ps).length, x.length, tkN (tkJ T n j3), tkP (tkJ T n j3))], pG ps ++ x) := by
                    rw [← h1.1, hx1, ← hc]; simp
                  obtain ⟨a1, a2, a3, a4, a5⟩ := pWays_ind hw r ps1 j1 ps' j' h (by rw [e]; exact hc) (by rw [e]; exact hI1)
                  refine ⟨a1, by rw [a2, e]; rfl, by rw [a3, e]; rfl, by rw [a4, e]; rfl, ?_⟩
                  have : (pW ps1).length = (pW ps).length + 1 := by rw [e]; unfold pW; simp
                  omega
                · simp at h1
              · simp at h1
        · simp at h1
    · split at h
      · simp at h; rw [← h.1]; exact ⟨hI, rfl, rfl, rfl, by omega⟩
      · simp at h
theorem pCounter_ind {I : PS → Prop} (hr : keepR I) (hc : keepC I) {F : Nat} {ps : PS} {j : Nat} {ps' : PS} {j' : Nat} (h : pCounter (tkJ T n) F ps j = .ok (ps', j')) (hN : pN ps = []) (hI : I ps) : I ps' ∧ pN ps' = pN ps ∧ pW ps' = pW ps ∧ (pC ps').length = (pC ps).length + 1 ∧ (pR ps').length ≤ (pR ps).length + 4 := by
  unfold pCounter at h
  split at h
  · rename_i h5
    split at h
    · have hnm := (tkJ_cases T n j).2.2.2.2.1 (Or.inl h5.1)
      obtain ⟨a1, a2, a3, a4, a5⟩ := pRules_ind hr 4 _ _ _ _ h (by unfold pC; simp) (hc ps _ _ hI hN hnm h5.2 (by omega) (by omega))
      exact ⟨a1, a3, a4, by rw [a2]; unfold pC; simp, a5⟩
    · simp at h
  · simp at h
theorem pNode_ind {I : PS → Prop} (hw : keepW I) (hn : keepN I) {F : Nat} {ps : PS} {j : Nat} {ps' : PS} {j' : Nat} (h : pNode (tkJ T n) F ps j = .ok (ps', j')) (hI : I ps) : I ps' ∧ pC ps' = pC ps ∧ pR ps' = pR ps ∧ (pN ps').length = (pN ps).length + 1 ∧ (pW ps').length ≤ (pW ps).length + 8 := by
  unfold pNode at h
  split at h
  · rename_i h5
    have hnm := (tkJ_cases T n j).2.2.2.2.1 (Or.inl h5.1)
    obtain ⟨a1, a2, a3, a4, a5⟩ := pWays_ind hw 8 _ _ _ _ h (by unfold pN; simp) (hn ps _ hI hnm h5.2)
    exact ⟨a1, a2, a4, by rw [a3]; unfold pN; simp, a5⟩
  · simp at h
theorem pTop_ind {I : PS → Prop} (hr : keepR I) (hc : keepC I) (hw : keepW I) (hn : keepN I) {F N : Nat} : ∀ (f : Nat) (ps : PS) (j : Nat) (ps' : PS), pTop (tkJ T n) F N f ps j = .ok ps' → I ps → I ps' ∧ pN ps' ≠ []
  | 0, ps, j, ps', h, hI => by rw [pTop] at h; simp at h
  | f + 1, ps, j, ps', h, hI => by
    rw [pTop] at h
    split at h
    · split at h
      · simp at h
      · rename_i hne; simp at h; rw [← h]; exact ⟨hI, hne⟩
    · split at h
      · split at h
        · cases hp : pNode (tkJ T n) F ps (j + 2) with
          | error e => rw [hp] at h; simp at h
          | ok v =>
            obtain ⟨ps1, j1⟩ := v
            rw [hp] at h
            exact pTop_ind hr hc hw hn f ps1 j1 ps' h (pNode_ind hw hn hp hI).1
        · split at h
          · rename_i hcc
            cases hp : pCounter (tkJ T n) F ps (j + 2) with
            | error e => rw [hp] at h; simp at h
            | ok v =>
              obtain ⟨ps1, j1⟩ := v
              rw [hp] at h
              exact pTop_ind hr hc hw hn f ps1 j1 ps' h (pCounter_ind hr hc hp hcc.2.1 hI).1
          · simp at h
      · simp at h
end

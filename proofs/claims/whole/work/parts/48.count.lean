/-! ===== PURE: counters step ===== -/
def hit (ps : PS) (c : Nat) (v : Nat → Int32) (k : Nat) (r : Rl) : Bool := decide (rO r = k) && (decide (rC r = -1 ∨ rC r = (c : Int)) && qHold ps c v (rF r) (rM r))
def mostI (ps : PS) (k : Nat) : Int32 := nI (((pC ps).map Prod.snd).getD k 0)
def nxv (ps : PS) (k : Nat) (x : Int32) : Option Rl → Int32
  | none => x
  | some r => if rU r then (if mostI ps k ≤ x then x else x + 1) else 0
def nxt (ps : PS) (c : Nat) (v : Nat → Int32) (k : Nat) (x : Int32) : Int32 := nxv ps k x ((pR ps).find? (hit ps c v k))
theorem find_at {α : Type} {f : α → Bool} {l : List α} {q : Nat} (hq : q < l.length) (h : f l[q] = true) (hno : ∀ (j : Nat) (hj : j < l.length), j < q → f l[j] = false) : l.find? f = some l[q] := by
  rw [List.find?_eq_some_iff_getElem]
  refine ⟨h, q, hq, rfl, fun j hj => ?_⟩
  rw [hno j (by omega) hj]; rfl
theorem find_no {α : Type} {f : α → Bool} {l : List α} (hno : ∀ (j : Nat) (hj : j < l.length), f l[j] = false) : l.find? f = none := by
  rw [List.find?_eq_none]
  intro x hx
  obtain ⟨j, hj, e⟩ := List.getElem_of_mem hx
  rw [← e, hno j hj]; simp
theorem mostI_at {ps : PS} {k : Nat} (hk : k < (pC ps).length) : mostI ps k = nI (pC ps)[k].2 := by
  unfold mostI
  rw [getD_at (by rw [List.length_map]; exact hk), List.getElem_map]
section
variable {s : yS} {p : Nat}
theorem k_count {ps : PS} {c a1 : Nat} {v : Nat → Int32} {Q : yS → Prop} (ha1 : a1 = 205 ∨ a1 = 206) (hp : poM s ps) (hwf : wfI ps) (hl : lenP ps) (hres : resOK ps) (hc : c < 16) (hv : vM s v)
    (H : ∀ s', frM (fun a i => a = a1 ∧ i < (pC ps).length) s s' → (∀ k, k < (pC ps).length → sI s' a1 k = nxt ps c v k (sI s a1 k)) → Q s') : W_X12_count s a1 6 (nI c) Q := by
  have l1 := hl.1
  have l2 := hl.2.1
  have hrng := wfI_rng hwf
  have hGl : (pG ps).length ≤ 864 := by have := (wfI_wfP hwf).1; have := hl.2.2.1; have := hl.2.2.2; omega
  unfold W_X12_count
  intro P2 hP2
  suffices hL : ∀ (r k : Nat) (s2 : yS), k + r = (pC ps).length → frM (fun a i => a = a1 ∧ i < (pC ps).length) s s2 → (∀ j, j < k → sI s2 a1 j = nxt ps c v j (sI s a1 j)) → (∀ j, k ≤ j → sI s2 a1 j = sI s a1 j) → P2 (nI k) s2 from
    hL (pC ps).length 0 s (by omega) frM.rfl' (fun j hj => by omega) (fun _ _ => rfl)
  intro r
  induction r with
  | zero =>
    intro k s2 hk F2 n2 o2
    apply hP2
    have c2 : sI s2 139 19 = nI (pC ps).length := (F2.1 _ _ (by omega)).trans hp.1.1
    rw [c2, nI_leU (by omega) (by omega)]
    exact ⟨fun _ => H s2 F2 (fun j hj => n2 j (by omega)), fun hh => absurd (by omega) hh⟩
  | succ r ih =>
    intro k s2 hk F2 n2 o2
    have hkl : k < (pC ps).length := by omega
    apply hP2
    have c2 : sI s2 139 19 = nI (pC ps).length := (F2.1 _ _ (by omega)).trans hp.1.1
    rw [c2, nI_leU (by omega) (by omega)]
    refine ⟨fun hh => absurd hh (by omega), fun _ => ?_⟩
    intro P16 hP16
    suffices hR : ∀ (q i : Nat) (x3 : Int32) (s5 : yS), i + q = (pR ps).length → frM (fun a j => a = a1 ∧ j < (pC ps).length) s s5 → (∀ j, j < k → sI s5 a1 j = nxt ps c v j (sI s a1 j)) → (∀ j, k < j → sI s5 a1 j = sI s a1 j) → (x3 = 0 → (∀ (j : Nat) (hj : j < (pR ps).length), j < i → hit ps c v k (pR ps)[j] = false) ∧ sI s5 a1 k = sI s a1 k) → (x3 ≠ 0 → sI s5 a1 k = nxt ps c v k (sI s a1 k)) → P16 x3 (nI i) s5 from
      hR (pR ps).length 0 0 s2 (by omega) F2 n2 (fun j hj => o2 j (by omega)) (fun _ => ⟨fun j hj hh => by omega, o2 k (by omega)⟩) (fun hh => absurd rfl hh)
    intro q
    induction q with
    | zero =>
      intro i x3 s5 hi F5 n5 o5 z5 d5
      apply hP16
      have r5 : sI s5 139 25 = nI (pR ps).length := (F5.1 _ _ (by omega)).trans hp.2.1.1
      rw [r5, nI_leU (by omega) (by omega)]
      refine ⟨fun _ => ?_, fun hh => absurd (by omega) hh⟩
      intro x6 e6; subst e6; rw [nI_s]
      refine ih (k + 1) s5 (by omega) F5 (fun j hj => ?_) (fun j hj => o5 j (by omega))
      by_cases cj : j = k
      · subst cj
        by_cases hx : x3 = 0
        · have := z5 hx
          rw [this.2]; unfold nxt
          rw [find_no (fun i' hi' => this.1 i' hi' (by omega))]; rfl
        · exact d5 hx
      · exact n5 j (by omega)
    | succ q ihq =>
      intro i x3 s5 hi F5 n5 o5 z5 d5
      have hil : i < (pR ps).length := by omega
      have hri := hwf.2.2.2.2.2.1 _ (List.getElem_mem hil)
      have hrr := hrng.1 _ (List.getElem_mem hil)
      have hrs := hp.2.1.2 i hil
      unfold rs1r at hrs
      apply hP16
      have r5 : sI s5 139 25 = nI (pR ps).length := (F5.1 _ _ (by omega)).trans hp.2.1.1
      have g146 : sI s5 146 i = nI (rO (pR ps)[i]) := (F5.1 _ _ (by omega)).trans hrs.1
      have g147 : sI s5 147 i = bI (rU (pR ps)[i]) := (F5.1 _ _ (by omega)).trans hrs.2.1
      have g148 : sI s5 148 i = Int32.ofInt (rC (pR ps)[i]) := (F5.1 _ _ (by omega)).trans hrs.2.2.1
      have g149 : sI s5 149 i = nI (rF (pR ps)[i]) := (F5.1 _ _ (by omega)).trans hrs.2.2.2.1
      have g150 : sI s5 150 i = nI (rM (pR ps)[i]) := (F5.1 _ _ (by omega)).trans hrs.2.2.2.2
      have p5 : poM s5 ps := hp.fr (fun a i ha => F5.1 _ _ (by omega)) (fun a i ha hb => F5.2.1 _ _ (by omega))
      have v5 : vM s5 v := ⟨fun j hj => (F5.1 _ _ (by omega)).trans (hv.1 j hj), fun j hj => (F5.1 _ _ (by omega)).trans (hv.2 j hj)⟩
      have m5 : sI s5 145 k = mostI ps k := by rw [F5.1 _ _ (by omega), mostI_at hkl]; exact (hp.1.2 k hkl).2
      have hlk := fun g h1 h2 => mem_lkR (ps := ps) hil (g := g) h1 h2
      rw [r5, nI_leU (by omega) (by omega), nI_ix (n := i) (by omega), g146, g147, g148, g149, g150, nI_ix (n := k) (by omega)]
      refine ⟨fun hh => absurd hh (by omega), fun _ => ?_⟩
      intro P67 hP67
      -- the rule does not count
      have no : (x3 ≠ 0 ∨ hit ps c v k (pR ps)[i] = false) → ∀ x10 : Int32, x10 = nI i + 1 → P16 x3 x10 s5 := by
        intro hh x10 e10
        subst e10; rw [nI_s]
        refine ihq (i + 1) x3 s5 (by omega) F5 n5 o5 (fun hz => ⟨fun j hj hji => ?_, (z5 hz).2⟩) d5
        by_cases cj : j = i
        · subst cj; exact hh.resolve_left (fun h => h hz)
        · exact (z5 hz).1 j hj (by omega)
      have no0 : (x3 ≠ 0 ∨ hit ps c v k (pR ps)[i] = false) → P67 0 := by
        intro hh
        apply hP67
        intro P139 hP139
        exact ⟨fun _ => hP139 _ _ (no hh), fun hz => absurd rfl hz⟩
      have yes : x3 = 0 → rO (pR ps)[i] = k → (rC (pR ps)[i] = -1 ∨ rC (pR ps)[i] = (c : Int)) → P67 1 := by
        intro hx hro hcl
        have hh : hit ps c v k (pR ps)[i] = qHold ps c v (rF (pR ps)[i]) (rM (pR ps)[i]) := by
          unfold hit; rw [decide_eq_true hro, decide_eq_true hcl, Bool.true_and, Bool.true_and]
        apply hP67
        intro P139 hP139
        refine ⟨fun hz => absurd hz (by decide), fun _ => ⟨nI_inU (by omega) (by omega), nI_inU (by omega) (by omega), ?_⟩⟩
        refine k_hold p5 hwf hl hres hc v5 (by omega) (cl := rC (pR ps)[i]) hlk ?_
        rw [← hh]
        cases hq : hit ps c v k (pR ps)[i]
        · exact ⟨fun _ => hP139 _ _ (no (Or.inr hq)), fun hz => absurd rfl hz⟩
        · refine ⟨fun hz => absurd hz (by decide), fun _ => ⟨nI_inU (by omega) (by omega), ?_⟩⟩
          have hfi : (pR ps).find? (hit ps c v k) = some (pR ps)[i] := find_at hil hq (fun j hj hji => (z5 hx).1 j hj hji)
          have hval : nxt ps c v k (sI s a1 k) = if rU (pR ps)[i] then (if mostI ps k ≤ sI s a1 k then sI s a1 k else sI s a1 k + 1) else 0 := by unfold nxt; rw [hfi]; rfl
          intro P138 hP138
          have go : ∀ y15 : Int32, y15 = nxt ps c v k (sI s a1 k) → P138 y15 := by
            intro y15 hy
            apply hP138
            refine ⟨nI_inU (by omega) (by omega), ?_⟩
            intro s17 e17
            apply hP139
            intro x10 e10
            subst e10; rw [nI_s]
            refine ihq (i + 1) 1 s17 (by omega) (by subst e17; exact F5.wI ⟨rfl, hkl⟩) (fun j hj => by subst e17; rw [sI_w, if_neg (by omega)]; exact n5 j hj) (fun j hj => by subst e17; rw [sI_w, if_neg (by omega)]; exact o5 j hj) (fun hz => absurd hz (by decide)) (fun _ => by subst e17; rw [sI_w, if_pos ⟨rfl, rfl⟩]; exact hy)
          have o5k := (z5 hx).2
          rw [m5, o5k]
          cases hu : rU (pR ps)[i]
          · rw [hu] at hval
            exact ⟨fun hz => absurd rfl hz, fun _ => go 0 hval.symm⟩
          · rw [hu] at hval
            refine ⟨fun _ => ⟨nI_inU (by omega) (by omega), nI_inU (by omega) (by omega), fun hle => ⟨nI_inU (by omega) (by omega), go _ ?_⟩, fun hlt => ⟨nI_inU (by omega) (by omega), go _ ?_⟩⟩, fun hz => absurd hz (by decide)⟩
            · rw [hval, if_pos rfl, if_pos hle]
            · rw [hval, if_pos rfl, if_neg hlt]
      have hcw : Int32.ofInt (rC (pR ps)[i]) < 0 ↔ rC (pR ps)[i] < 0 := by
        rw [Int32.lt_iff_toInt_lt, oI_toInt (by omega) (by omega)]; exact Iff.rfl
      have hcw2 : Int32.ofInt (rC (pR ps)[i]) = nI c ↔ rC (pR ps)[i] = (c : Int) := by
        rw [← Int32.toInt_inj, oI_toInt (by omega) (by omega), nI_toIntU (by omega)]
      rw [hcw, hcw2, nI_inj (by omega) (by omega)]
      refine ⟨fun hx => no0 (Or.inl hx), fun hx => ⟨nI_inU (by omega) (by omega), fun hne => no0 (Or.inr ?_), fun hro => ⟨nI_inU (by omega) (by omega), fun h1 => yes hx hro (Or.inl (by omega)), fun h1 => ⟨nI_inU (by omega) (by omega), fun h2 => no0 (Or.inr ?_), fun h2 => yes hx hro (Or.inr h2)⟩⟩⟩⟩
      · unfold hit; rw [decide_eq_false hne]; rfl
      · unfold hit; rw [decide_eq_false (p := rC (pR ps)[i] = -1 ∨ rC (pR ps)[i] = (c : Int)) (fun hh => hh.elim (fun h3 => by omega) h2), Bool.false_and, Bool.and_false]
/-- counters as they can be -/
def okR6 (ps : PS) (f : Nat → Int32) : Prop := ∀ k, k < (pC ps).length → ∃ n, n ≤ ((pC ps).map Prod.snd).getD k 0 ∧ f k = nI n
theorem mst_le {ps : PS} (hwf : wfI ps) (k : Nat) : ((pC ps).map Prod.snd).getD k 0 ≤ 15 := by
  rw [List.getD_eq_getElem?_getD, List.getElem?_map]
  cases hg : (pC ps)[k]? with
  | none => simp
  | some y => have := (hwf.2.2.1 y (List.mem_of_getElem? hg)).2.2; simpa using this
theorem nxt_ok {ps : PS} {c k : Nat} {v : Nat → Int32} {x : Int32} (hwf : wfI ps) (h : ∃ n, n ≤ ((pC ps).map Prod.snd).getD k 0 ∧ x = nI n) : ∃ n, n ≤ ((pC ps).map Prod.snd).getD k 0 ∧ nxt ps c v k x = nI n := by
  obtain ⟨n, hn, e⟩ := h
  have hm := mst_le hwf k
  unfold nxt
  cases (pR ps).find? (hit ps c v k) with
  | none => exact ⟨n, hn, e⟩
  | some r =>
    show ∃ n, _ ∧ (if rU r then (if mostI ps k ≤ x then x else x + 1) else 0) = nI n
    split
    · split
      · exact ⟨n, hn, e⟩
      · rename_i hlt
        unfold mostI at hlt
        rw [e, nI_leU (by omega) (by omega)] at hlt
        exact ⟨n + 1, by omega, by rw [e, nI_s]⟩
    · exact ⟨0, by omega, rfl⟩
/-- the other one's counters step as the reference's -/
theorem c_stepCounters {ps : PS} {c a1 a3 : Nat} {v : Nat → Int32} {Q : yS → Prop} (hpp : p = 3 ∨ p = 20) (ha : a1 = 126 ∧ a3 = 127 ∨ a1 = 137 ∧ a3 = 138) (hp : poC s p ps ∨ (sI s p 0) = 0 ∧ pC ps = []) (hwf : wfI ps) (hl : lenP ps) (hres : resOK ps) (hc : c < 16) (hv : vCl s a3 v) (hok : okR6 ps (sI s a1))
    (H : ∀ s', frM (fun a i => a = a1 ∧ i < (pC ps).length) s s' → (∀ k, k < (pC ps).length → sI s' a1 k = nxt ps c v k (sI s a1 k)) → Q s') : W_X3_stepCounters s p a1 6 (nI c) a3 9 Q := by
  have l1 := hl.1
  have l2 := hl.2.1
  have l3 := hl.2.2.1
  have l4 := hl.2.2.2
  have cn : (sI s p 0) = nI (pC ps).length := by
    rcases hp with h | ⟨h1, h2⟩
    · exact h.1
    · rw [h1, h2]; rfl
  unfold W_X3_stepCounters
  intro P3 hP3
  suffices hL : ∀ (r k : Nat) (s2 : yS), k + r = (pC ps).length → frM (fun a i => a = a1 ∧ i < (pC ps).length) s s2 → (∀ j, j < k → sI s2 a1 j = nxt ps c v j (sI s a1 j)) → (∀ j, k ≤ j → sI s2 a1 j = sI s a1 j) → P3 (nI k) s2 from
    hL (pC ps).length 0 s (by omega) frM.rfl' (fun j hj => by omega) (fun _ _ => rfl)
  intro r
  induction r with
  | zero =>
    intro k s2 hk F2 n2 o2
    apply hP3
    rw [F2.1 p 0 (by omega), cn, nI_leU (by omega) (by omega)]
    exact ⟨fun _ => H s2 F2 (fun j hj => n2 j (by omega)), fun hh => absurd (by omega) hh⟩
  | succ r ih =>
    intro k s2 hk F2 n2 o2
    have hkl : k < (pC ps).length := by omega
    have hp : poC s p ps := by
      rcases hp with h | ⟨h1, h2⟩
      · exact h
      · rw [h2] at hkl; simp at hkl
    have p2 : poC s2 p ps := hp.fr (fun a i ha => F2.1 _ _ (by omega))
    have v2 : vCl s2 a3 v := fun i hi => (F2.1 _ _ (by omega)).trans (hv i hi)
    have hA := p2.2.2.2.1 k (by omega)
    have hB := p2.2.2.2.1 (k + 1) (by omega)
    have hsrt := hwf.2.2.2.2.2.2.2.2.1
    have cA := srt_le (f := rO) (n := k) hsrt
    have cB := srt_le (f := rO) (n := k + 1) hsrt
    have hBle : (pR ps).countP (fun r => decide (rO r < k + 1)) ≤ (pR ps).length := List.countP_le_length
    have hAB : (pR ps).countP (fun r => decide (rO r < k)) ≤ (pR ps).countP (fun r => decide (rO r < k + 1)) := by
      apply List.countP_mono_left
      intro w _ hw; simp at hw ⊢; omega
    generalize (pR ps).countP (fun r => decide (rO r < k)) = A at *
    generalize (pR ps).countP (fun r => decide (rO r < k + 1)) = B at *
    apply hP3
    rw [F2.1 p 0 (by omega), cn, nI_leU (by omega) (by omega), nI_s, nI_ix (n := k + 1) (by omega), nI_ix (n := k) (by omega), hA, hB]
    refine ⟨fun hh => absurd hh (by omega), fun _ => ⟨nI_inU (by omega) (by omega), ?_⟩⟩
    intro P21 hP21 x16 e16
    subst e16
    suffices hQ : ∀ (q i : Nat), i + q = B → A ≤ i → (∀ (j : Nat) (hj : j < (pR ps).length), A ≤ j → j < i → hit ps c v k (pR ps)[j] = false) → P21 (nI i) from
      hQ (B - A) A (by omega) (by omega) (fun j hj h1 h2 => by omega)
    have out : ∀ (j : Nat) (hj : j < (pR ps).length), ¬ (A ≤ j ∧ j < B) → hit ps c v k (pR ps)[j] = false := by
      intro j hj hn
      unfold hit
      rw [decide_eq_false, Bool.false_and]
      intro e
      have a1 := (cA j hj)
      have a2 := (cB j hj)
      omega
    have nx : ∀ (s6 : yS), frM (fun a i => a = a1 ∧ i < (pC ps).length) s s6 → (∀ j, j < k → sI s6 a1 j = nxt ps c v j (sI s a1 j)) → sI s6 a1 k = nxt ps c v k (sI s a1 k) → (∀ j, k < j → sI s6 a1 j = sI s a1 j) → ∀ x7 : Int32, x7 = nI (k + 1) → P3 x7 s6 := by
      intro s6 F6 n6 e6 o6 x7 e7
      subst e7
      refine ih (k + 1) s6 (by omega) F6 (fun j hj => ?_) (fun j hj => o6 j (by omega))
      by_cases cj : j = k
      · subst cj; exact e6
      · exact n6 j (by omega)
    intro q
    induction q with
    | zero =>
      intro i hi hAi hno
      apply hP21
      refine ⟨nI_inU (by omega) (by omega), ?_⟩
      intro P89 hP89
      rw [nI_leU (by omega) (by omega)]
      refine ⟨fun _ => hP89 _ (nx s2 F2 n2 ?_ (fun j hj => o2 j (by omega))), fun hh => absurd (by omega) hh⟩
      rw [o2 k (by omega)]; unfold nxt
      rw [find_no (fun j hj => ?_)]; rfl
      by_cases cj : A ≤ j ∧ j < B
      · exact hno j hj cj.1 (by omega)
      · exact out j hj cj
    | succ q ihq =>
      intro i hi hAi hno
      have hil : i < (pR ps).length := by omega
      have hql : i < (qL ps).length := by rw [qL_len]; omega
      have hqr := qL_gR hql hil
      have hro : rO (pR ps)[i] = k := by
        have a1 : ¬ rO (pR ps)[i] < k := fun hh => by have := (cA i hil).mp hh; omega
        have a2 := (cB i hil).mpr (by omega)
        omega
      apply hP21
      refine ⟨nI_inU (by omega) (by omega), ?_⟩
      intro P89 hP89
      rw [nI_leU (by omega) (by omega)]
      refine ⟨fun hh => absurd hh (by omega), fun _ => ?_⟩
      refine c_holds p2 hwf hl hres hc v2 hql (fun g h1 h2 => ⟨_, mem_lkR hil (by rw [hqr] at h1; exact h1) (by rw [hqr] at h2; exact h2)⟩) ?_
      rw [hqr]
      dsimp only
      have hgo : (decide (rC (pR ps)[i] = -1 ∨ rC (pR ps)[i] = (c : Int)) && qHold ps c v (rF (pR ps)[i]) (rM (pR ps)[i])) = hit ps c v k (pR ps)[i] := by
        unfold hit; rw [decide_eq_true hro, Bool.true_and]
      rw [hgo]
      cases hh : hit ps c v k (pR ps)[i]
      · refine ⟨fun _ => ?_, fun hz => absurd rfl hz⟩
        intro x9 e9; subst e9; rw [nI_s]
        refine ihq (i + 1) (by omega) (by omega) (fun j hj h1 h2 => ?_)
        by_cases cj : j = i
        · subst cj; exact hh
        · exact hno j hj h1 (by omega)
      · refine ⟨fun hz => absurd hz (by decide), fun _ => ⟨nI_inU (by omega) (by omega), ?_⟩⟩
        have hfi : (pR ps).find? (hit ps c v k) = some (pR ps)[i] := find_at hil hh (fun j hj hji => by
          by_cases cj : A ≤ j ∧ j < B
          · exact hno j hj cj.1 hji
          · exact out j hj cj)
        have hval : nxt ps c v k (sI s a1 k) = if rU (pR ps)[i] then (if mostI ps k ≤ sI s a1 k then sI s a1 k else sI s a1 k + 1) else 0 := by unfold nxt; rw [hfi]; rfl
        intro P79 hP79
        have go : ∀ y11 : Int32, y11 = nxt ps c v k (sI s a1 k) → P79 y11 := by
          intro y11 hy
          apply hP79
          refine ⟨nI_inU (by omega) (by omega), ?_⟩
          intro s13 e13
          apply hP89
          refine nx s13 (by subst e13; exact F2.wI ⟨rfl, hkl⟩) (fun j hj => by subst e13; rw [sI_w, if_neg (by omega)]; exact n2 j hj) (by subst e13; rw [sI_w, if_pos ⟨rfl, rfl⟩]; exact hy) (fun j hj => by subst e13; rw [sI_w, if_neg (by omega)]; exact o2 j (by omega))
        have hto := p2.2.2.2.2.2.2.1 i hil
        have hms := p2.2.2.1 k hkl
        obtain ⟨n, hn, en⟩ := hok k hkl
        have hm15 := mst_le hwf k
        have e2 : ((pC ps).map Prod.snd).getD k 0 = (pC ps)[k].2 := by rw [getD_at (by rw [List.length_map]; exact hkl), List.getElem_map]
        rw [nI_ix (n := i) (by omega), hto, hms, o2 k (by omega), en, nI_s]
        unfold mostI at hval
        rw [en, nI_s, e2] at hval
        have hn2 : n ≤ (pC ps)[k].2 := by omega
        have L1 : nI (n + 1) < nI (pC ps)[k].2 ↔ n + 1 < (pC ps)[k].2 := nI_ltU (by omega) (by omega)
        have L2 : nI (pC ps)[k].2 ≤ nI n ↔ (pC ps)[k].2 ≤ n := nI_leU (by omega) (by omega)
        cases hu : rU (pR ps)[i]
        · rw [hu] at hval
          exact ⟨fun hz => absurd rfl hz, fun _ => go 0 (by rw [en]; exact hval.symm)⟩
        · rw [hu, if_pos rfl] at hval
          refine ⟨fun _ => ⟨nI_inU (by omega) (by omega), nI_inU (by omega) (by omega), go _ ?_⟩, fun hz => absurd hz (by decide)⟩
          rw [en, hval]
          by_cases h1 : n + 1 < (pC ps)[k].2
          · rw [if_pos (L1.mpr h1), if_neg (fun hh => by have := L2.mp hh; omega)]
          · rw [if_neg (fun hh => h1 (L1.mp hh))]
            by_cases h2 : (pC ps)[k].2 ≤ n
            · rw [if_pos (L2.mpr h2), show (pC ps)[k].2 = n by omega]
            · rw [if_neg (fun hh => h2 (L2.mp hh)), show (pC ps)[k].2 = n + 1 by omega]
end

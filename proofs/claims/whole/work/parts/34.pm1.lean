/-! ===== the reference reads a policy: words, must, next ===== -/
def okJ (T : Nat → Nat) (n j : Nat) : Prop := ∀ i, i < j → 2 ≤ tkK (tkJ T n i)
section
variable {T : Nat → Nat} {n : Nat}
theorem tkPos_le (hj : ∀ j, tkPos T n j ≤ n → tkPos T n (j + 1) ≤ n) : ∀ j, tkPos T n j ≤ n
  | 0 => Nat.zero_le _
  | j + 1 => hj j (tkPos_le hj j)
theorem skip_le {p : Nat} (hp : p ≤ n) : p ≤ skipT T (n - p) p ∧ skipT T (n - p) p ≤ n := by
  have := skipT_le (T := T) (n - p) p; omega
theorem tkPos_n (j : Nat) : tkPos T n j ≤ n := by
  refine tkPos_le (fun j hj => ?_) j
  exact (tok_cases T n _ (skip_le hj).2).2.2.1
theorem tkJ_cases (T : Nat → Nat) (n j : Nat) : let t := tkJ T n j
    tkK t ≤ 6 ∧ tkPos T n j ≤ tkP t ∧ tkX t ≤ n ∧ (2 ≤ tkK t → tkP t < tkX t) ∧ (tkK t = 5 ∨ tkK t = 6 → isNm (tkN t)) ∧ (tkK t = 5 → ¬ tkN t ∈ wdL) ∧ (tkK t = 6 → tkN t ∈ wdL ∧ tkV t = (wdL.idxOf (tkN t) : Int)) ∧ (tkK t = 4 → -2147483648 ≤ tkV t ∧ tkV t ≤ 2147483647) ∧ (tkK t ≠ 4 → tkK t ≠ 6 → tkV t = 0) ∧ (tkK t = 0 → tkP t = n) ∧ tkP t ≤ n := by
  have hs := skip_le (T := T) (n := n) (tkPos_n (T := T) j)
  have h := tok_cases T n _ hs.2
  dsimp only at h ⊢
  have e : tkJ T n j = tokAt T n (skipT T (n - tkPos T n j) (tkPos T n j)) := rfl
  rw [e]
  refine ⟨h.1, by omega, h.2.2.1, fun hk => by have := h.2.2.2.1 hk; omega, h.2.2.2.2.1, h.2.2.2.2.2.1, h.2.2.2.2.2.2.1, h.2.2.2.2.2.2.2.1, h.2.2.2.2.2.2.2.2.1, fun hk => by have := h.2.2.2.2.2.2.2.2.2 hk; omega, by omega⟩
theorem okJ_le : ∀ {j : Nat}, okJ T n j → j ≤ tkPos T n j
  | 0, _ => Nat.zero_le _
  | j + 1, h => by
    have h1 := okJ_le (j := j) (fun i hi => h i (by omega))
    have h2 := tkJ_cases T n j
    dsimp only at h2
    have h3 := h2.2.2.2.1 (h j (by omega))
    show j + 1 ≤ tkX (tkJ T n j)
    omega
theorem okJ_n {j : Nat} (h : okJ T n j) : j ≤ n := Nat.le_trans (okJ_le h) (tkPos_n j)
theorem okJ.s {j : Nat} (h : okJ T n j) (h2 : 2 ≤ tkK (tkJ T n j)) : okJ T n (j + 1) := by
  intro i hi
  by_cases c : i = j
  · subst c; exact h2
  · exact h i (by omega)
/-- the reference is at token j -/
def cuM (s : yS) (T : Nat → Nat) (n j : Nat) : Prop :=
  (sI s 139 10) = nI (tkX (tkJ T n j)) ∧ (sI s 139 12) = nI (tkP (tkJ T n j))
  ∧ (tkK (tkJ T n j) = 1 → (sI s 139 15) = 1 ∧ (sI s 139 16) = nI (tkP (tkJ T n j))) ∧ (tkK (tkJ T n j) ≠ 1 → (sI s 139 15) = 0 ∧ (sI s 139 16) = -1)
  ∧ (tkK (tkJ T n j) = 0 → (sI s 139 11) = nI 4) ∧ (tkK (tkJ T n j) = 2 → (sI s 139 11) = nI 0) ∧ (tkK (tkJ T n j) = 3 → (sI s 139 11) = nI 1)
  ∧ (tkK (tkJ T n j) = 4 → (sI s 139 11) = nI 3 ∧ (sJ s 139 14) = Int64.ofInt (tkV (tkJ T n j))) ∧ (tkK (tkJ T n j) = 5 ∨ tkK (tkJ T n j) = 6 → (sI s 139 11) = nI 2 ∧ (sJ s 139 13) = Int64.ofInt (c27 0 (tkN (tkJ T n j))))
/-- there is a fault -/
def erM (s : yS) (n : Nat) (e : Nat × Nat) : Prop := (sI s 139 15) = nI e.1 ∧ 1 ≤ e.1 ∧ e.1 ≤ 8 ∧ (sI s 139 16) = nI e.2 ∧ ∃ p, p ≤ n ∧ (sI s 139 10) = nI p
theorem erM.ne {s : yS} {e : Nat × Nat} (h : erM s n e) : ¬ (sI s 139 15) = 0 := by
  rw [h.1, nI_0U, nI_inj (by have := h.2.2.1; omega) (by omega)]; have := h.2.1; omega
theorem cuM.bad {s : yS} {j : Nat} (h : cuM s T n j) (hk : tkK (tkJ T n j) = 1) : erM s n (pRef (tkJ T n j)) := by
  have h2 := tkJ_cases T n j
  dsimp only at h2
  refine ⟨?_, ?_, ?_, ?_, ⟨_, h2.2.2.1, h.1⟩⟩
  · rw [(h.2.2.1 hk).1]; unfold pRef; rw [if_pos hk]; rfl
  · unfold pRef; rw [if_pos hk]; exact Nat.le_refl _
  · unfold pRef; rw [if_pos hk]; show 1 ≤ 8; omega
  · exact (h.2.2.1 hk).2
/-- cells that the reference's reading at 139 leaves, and its arrays -/
theorem erM.fr {s s' : yS} {e : Nat × Nat} (h : erM s n e) (h1 : (sI s' 139 15) = (sI s 139 15)) (h2 : (sI s' 139 16) = (sI s 139 16)) (h3 : (sI s' 139 10) = (sI s 139 10)) : erM s' n e :=
  ⟨h1.trans h.1, h.2.1, h.2.2.1, h2.trans h.2.2.2.1, by obtain ⟨p, hp, hq⟩ := h.2.2.2.2; exact ⟨p, hp, h3.trans hq⟩⟩
theorem cuM.fr {s s' : yS} {j : Nat} (h : cuM s T n j) (h1 : ∀ i, (i = 10 ∨ i = 11 ∨ i = 12 ∨ i = 15 ∨ i = 16) → sI s' 139 i = sI s 139 i) (h2 : ∀ i, (i = 13 ∨ i = 14) → sJ s' 139 i = sJ s 139 i) : cuM s' T n j := by
  unfold cuM at h ⊢
  rw [h1 10 (by omega), h1 11 (by omega), h1 12 (by omega), h1 15 (by omega), h1 16 (by omega), h2 13 (by omega), h2 14 (by omega)]
  exact h
def tcd (k : Nat) : Nat := if k = 0 then 4 else if k = 2 then 0 else if k = 3 then 1 else if k = 4 then 3 else 2
theorem cuM.tok {s : yS} {j : Nat} (h : cuM s T n j) (hk : tkK (tkJ T n j) ≠ 1) : (sI s 139 11) = nI (tcd (tkK (tkJ T n j))) := by
  have h6 := (tkJ_cases T n j).1
  obtain ⟨_, _, _, _, r0, r2, r3, r4, r5⟩ := h
  generalize tkK (tkJ T n j) = k at *
  have : k = 0 ∨ k = 2 ∨ k = 3 ∨ k = 4 ∨ k = 5 ∨ k = 6 := by omega
  rcases this with rfl | rfl | rfl | rfl | rfl | rfl
  · exact r0 rfl
  · exact r2 rfl
  · exact r3 rfl
  · exact (r4 rfl).1
  · exact (r5 (Or.inl rfl)).1
  · exact (r5 (Or.inr rfl)).1
theorem tcd_le (k : Nat) : tcd k ≤ 4 := by unfold tcd; repeat' split
                                           all_goals omega
theorem cuM.t0 {s : yS} {j : Nat} (h : cuM s T n j) (hk : tkK (tkJ T n j) ≠ 1) : (sI s 139 11) = 0 ↔ tkK (tkJ T n j) = 2 := by
  have h6 := (tkJ_cases T n j).1
  have := tcd_le (tkK (tkJ T n j))
  rw [h.tok hk, nI_0U, nI_inj (by omega) (by omega)]; unfold tcd; repeat' split
  all_goals omega
theorem cuM.t1 {s : yS} {j : Nat} (h : cuM s T n j) (hk : tkK (tkJ T n j) ≠ 1) : (sI s 139 11) = 1 ↔ tkK (tkJ T n j) = 3 := by
  have h6 := (tkJ_cases T n j).1
  have := tcd_le (tkK (tkJ T n j))
  rw [h.tok hk, nI_1U, nI_inj (by omega) (by omega)]; unfold tcd; repeat' split
  all_goals omega
theorem cuM.t2 {s : yS} {j : Nat} (h : cuM s T n j) (hk : tkK (tkJ T n j) ≠ 1) : (sI s 139 11) = nI 2 ↔ tkK (tkJ T n j) = 5 ∨ tkK (tkJ T n j) = 6 := by
  have h6 := (tkJ_cases T n j).1
  have := tcd_le (tkK (tkJ T n j))
  rw [h.tok hk, nI_inj (by omega) (by omega)]; unfold tcd; repeat' split
  all_goals omega
theorem cuM.t3 {s : yS} {j : Nat} (h : cuM s T n j) (hk : tkK (tkJ T n j) ≠ 1) : (sI s 139 11) = nI 3 ↔ tkK (tkJ T n j) = 4 := by
  have h6 := (tkJ_cases T n j).1
  have := tcd_le (tkK (tkJ T n j))
  rw [h.tok hk, nI_inj (by omega) (by omega)]; unfold tcd; repeat' split
  all_goals omega
theorem cuM.t4 {s : yS} {j : Nat} (h : cuM s T n j) (hk : tkK (tkJ T n j) ≠ 1) : (sI s 139 11) = nI 4 ↔ tkK (tkJ T n j) = 0 := by
  have h6 := (tkJ_cases T n j).1
  have := tcd_le (tkK (tkJ T n j))
  rw [h.tok hk, nI_inj (by omega) (by omega)]; unfold tcd; repeat' split
  all_goals omega
theorem k_nextJ {s : yS} {j : Nat} {Q : yS → Prop} (h : txM s T n) (hc : cuM s T n j) (hk : tkK (tkJ T n j) ≠ 1) (H : ∀ s', nxF s s' → cuM s' T n (j + 1) → Q s') : W_X12_next s Q := by
  have h2 := tkJ_cases T n j
  dsimp only at h2
  refine k_next h hc.1 h2.2.2.1 (fun s' hs => H s' hs.1 ?_)
  have hb := hc.2.2.2.1 hk
  obtain ⟨q1, q2, q3, q4, q5⟩ := hs
  refine ⟨q2, q3, fun h1 => q4.1 ⟨h1, hb.1⟩, fun h1 => ?_, q5⟩
  have := q4.2 (fun h3 => h1 h3.1)
  exact ⟨this.1.trans hb.1, this.2.trans hb.2⟩
theorem k_nextE {s : yS} {e : Nat × Nat} {Q : yS → Prop} (h : txM s T n) (hc : erM s n e) (H : ∀ s', nxF s s' → erM s' n e → Q s') : W_X12_next s Q := by
  obtain ⟨p, hp, hq⟩ := hc.2.2.2.2
  refine k_next h hq hp (fun s' hs => H s' hs.1 ?_)
  obtain ⟨q1, q2, q3, q4, q5⟩ := hs
  have := q4.2 (fun h3 => hc.ne h3.2)
  exact ⟨this.1.trans hc.1, hc.2.1, hc.2.2.1, this.2.trans hc.2.2.2.1, _, (tok_cases T n _ (skip_le hp).2).2.2.1, q2⟩
/-- the first next -/
theorem k_next0 {s : yS} {Q : yS → Prop} (h : txM s T n) (h1 : (sI s 139 10) = 0) (h2 : (sI s 139 15) = 0) (h3 : (sI s 139 16) = -1) (H : ∀ s', nxF s s' → cuM s' T n 0 → Q s') : W_X12_next s Q := by
  refine k_next h (p := 0) h1 (by omega) (fun s' hs => H s' hs.1 ?_)
  obtain ⟨q1, q2, q3, q4, q5⟩ := hs
  refine ⟨q2, q3, fun h1 => q4.1 ⟨h1, h2⟩, fun h1 => ?_, q5⟩
  have := q4.2 (fun h3 => h1 h3.1)
  exact ⟨this.1.trans h2, this.2.trans h3⟩
theorem k_mustE {s : yS} {e : Nat × Nat} {c : Int32} {Q : Int32 → yS → Prop} (hc : erM s n e) (H : Q 0 s) : W_X12_must s c Q := by
  unfold W_X12_must
  intro P47 hP47
  have hP : P47 s := hP47 s ⟨fun _ => H, fun hh => absurd hh hc.ne⟩
  exact ⟨fun _ => hP, fun _ => ⟨fun _ => hP, fun hh => absurd hh hc.ne⟩⟩
theorem k_mustJ {s : yS} {j : Nat} {c : Int32} {Q : Int32 → yS → Prop} (h : txM s T n) (hc : cuM s T n j) (H1 : ¬ c = 0 → tkK (tkJ T n j) ≠ 1 → Q 1 s)
    (H0 : (c = 0 ∨ tkK (tkJ T n j) = 1) → ∀ s', nxF s s' → erM s' n (pRef (tkJ T n j)) → Q 0 s') : W_X12_must s c Q := by
  have h2 := tkJ_cases T n j
  dsimp only at h2
  by_cases hk : tkK (tkJ T n j) = 1
  · exact k_mustE (hc.bad hk) (H0 (Or.inr hk) s nxF.rfl' (hc.bad hk))
  have hb := hc.2.2.2.1 hk
  unfold W_X12_must
  intro P47 hP47
  refine ⟨fun hcn => hP47 s ⟨fun hh => absurd hb.1 hh, fun _ => H1 hcn hk⟩, fun hc0 => ⟨fun hh => absurd hb.1 hh, fun _ => ?_⟩⟩
  intro P25 hP25
  have go : ∀ (y2 y3 : Int32), y2 = nI (pRef (tkJ T n j)).1 → y3 = nI (pRef (tkJ T n j)).2 → W_X12_wrong s y2 y3 (fun s4 => P47 s4) := by
    intro y2 y3 e2 e3
    refine k_wrong (fun hh => absurd hb.1 hh) (fun _ => ?_)
    apply hP47
    have hb1 : 1 ≤ (pRef (tkJ T n j)).1 ∧ (pRef (tkJ T n j)).1 ≤ 8 := by unfold pRef; dsimp only; split <;> (try split) <;> omega
    have he : erM (wI (wI s 139 15 y2) 139 16 y3) n (pRef (tkJ T n j)) := by
      refine ⟨?_, hb1.1, hb1.2, ?_, ⟨_, h2.2.2.1, ?_⟩⟩
      · rw [sI_w, if_neg (by omega), sI_w, if_pos ⟨rfl, rfl⟩]; exact e2
      · rw [sI_w, if_pos ⟨rfl, rfl⟩]; exact e3
      · rw [sI_w, if_neg (by omega), sI_w, if_neg (by omega)]; exact hc.1
    exact ⟨fun _ => H0 (Or.inl hc0) _ ((nxF.rfl'.wI (by omega)).wI (by omega)) he, fun hh => absurd hh he.ne⟩
  by_cases k0 : tkK (tkJ T n j) = 0
  · have ht := hc.2.2.2.2.1 k0
    refine ⟨fun hh => absurd ht hh, fun _ => hP25 _ ?_⟩
    intro P44 hP44
    refine ⟨fun hh => absurd ht hh, fun _ => hP44 _ ?_⟩
    rw [h.2.1]
    refine go _ _ ?_ ?_
    · unfold pRef; rw [if_neg hk, if_pos k0]
    · unfold pRef; rw [h2.2.2.2.2.2.2.2.2.2.1 k0]
  · have ht : ¬ (sI s 139 11) = nI 4 := by
      have k6 := h2.1
      obtain ⟨_, _, _, _, _, r2, r3, r4, r5⟩ := hc
      have : tkK (tkJ T n j) = 2 ∨ tkK (tkJ T n j) = 3 ∨ tkK (tkJ T n j) = 4 ∨ (tkK (tkJ T n j) = 5 ∨ tkK (tkJ T n j) = 6) := by omega
      rcases this with hh | hh | hh | hh
      · rw [r2 hh]; decide
      · rw [r3 hh]; decide
      · rw [(r4 hh).1]; decide
      · rw [(r5 hh).1]; decide
    refine ⟨fun _ => hP25 _ ?_, fun hh => absurd hh ht⟩
    intro P44 hP44
    refine ⟨fun _ => hP44 _ ?_, fun hh => absurd hh ht⟩
    refine go _ _ ?_ ?_
    · unfold pRef; rw [if_neg hk, if_neg k0]
    · exact hc.2.1
/-- the reference's words and the klass's numbers of them -/
def wdM (w : Nat) : Int64 := Int64.ofInt (c27 0 (wdL.getD w []))
theorem wd339 : y_nm y_w339 0 = wdM 0 := by decide
theorem wd349 : y_nm y_w349 0 = wdM 1 := by decide
theorem wd345 : y_nm y_w345 0 = wdM 2 := by decide
theorem wd347 : y_nm y_w347 0 = wdM 3 := by decide
theorem wd351 : y_nm y_w351 0 = wdM 4 := by decide
theorem wd353 : y_nm y_w353 0 = wdM 5 := by decide
theorem wd355 : y_nm y_w355 0 = wdM 6 := by decide
theorem wd357 : y_nm y_w357 0 = wdM 7 := by decide
theorem wd359 : y_nm y_w359 0 = wdM 8 := by decide
theorem wd361 : y_nm y_w361 0 = wdM 9 := by decide
theorem wd363 : y_nm y_w363 0 = wdM 10 := by decide
theorem wd365 : y_nm y_w365 0 = wdM 11 := by decide
theorem wdL_get {w : Nat} (hw : w < 12) : wdL.getD w [] = wdL[w]'hw := by
  rw [List.getD_eq_getElem?_getD, List.getElem?_eq_getElem hw]; rfl
theorem k_isWord {s : yS} {j w : Nat} {Q : Int32 → Prop} (hc : cuM s T n j) (hw : w < 12)
    (H : ∀ r : Int32, (r = 0 ∨ r = 1) → (tkK (tkJ T n j) ≠ 1 → r = if isW (tkJ T n j) w then 1 else 0) → Q r) : W_X12_isWord s (wdM w) Q := by
  have h2 := tkJ_cases T n j
  dsimp only at h2
  unfold W_X12_isWord
  by_cases hk : tkK (tkJ T n j) = 1
  · exact ⟨fun _ => H 0 (Or.inl rfl) (fun hh => absurd hk hh), fun _ => ⟨fun _ => H 0 (Or.inl rfl) (fun hh => absurd hk hh), fun _ => H 1 (Or.inr rfl) (fun hh => absurd hk hh)⟩⟩
  · obtain ⟨_, _, _, _, r0, r2, r3, r4, r5⟩ := hc
    by_cases h56 : tkK (tkJ T n j) = 5 ∨ tkK (tkJ T n j) = 6
    · have hr := r5 h56
      have hnm := h2.2.2.2.2.1 h56
      have hwm : isNm (wdL.getD w []) := by rw [wdL_get hw]; exact wdL_nm _ (List.getElem_mem _)
      rw [hr.1, hr.2, lgc_eq0, Int64.toInt_inj]; unfold wdM
      rw [c27_inj hnm hwm]
      refine ⟨fun hh => absurd rfl hh, fun _ => ⟨fun hh => H 0 (Or.inl rfl) (fun _ => ?_), fun hh => H 1 (Or.inr rfl) (fun _ => ?_)⟩⟩
      · rw [if_neg]; unfold isW; intro hi; simp at hi
        have hm := h2.2.2.2.2.2.2.1 hi.1
        have hidx : wdL.idxOf (tkN (tkJ T n j)) = w := by have := hm.2; omega
        apply hh
        rw [wdL_get hw]
        have := List.getElem_idxOf (xs := wdL) (x := tkN (tkJ T n j)) (List.idxOf_lt_length_of_mem hm.1)
        rw [← this]; congr 1
      · rw [if_pos]; unfold isW
        have hin : tkN (tkJ T n j) ∈ wdL := by rw [hh, wdL_get hw]; exact List.getElem_mem _
        have k6 : tkK (tkJ T n j) = 6 := by
          rcases h56 with h5 | h6
          · exact absurd hin (h2.2.2.2.2.2.1 h5)
          · exact h6
        have hv := (h2.2.2.2.2.2.2.1 k6).2
        rw [hv, hh, wdL_get hw, List.Nodup.idxOf_getElem wdL_nd w hw]; simp [k6]
    · have ht : ¬ (sI s 139 11) = nI 2 := by
        have : tkK (tkJ T n j) = 0 ∨ tkK (tkJ T n j) = 2 ∨ tkK (tkJ T n j) = 3 ∨ tkK (tkJ T n j) = 4 := by have := h2.1; omega
        rcases this with hh | hh | hh | hh
        · rw [r0 hh]; decide
        · rw [r2 hh]; decide
        · rw [r3 hh]; decide
        · rw [(r4 hh).1]; decide
      refine ⟨fun _ => H 0 (Or.inl rfl) (fun _ => ?_), fun hh => absurd hh ht⟩
      rw [if_neg]; unfold isW; simp; intro h6; omega
theorem k_isWordE {s : yS} {w : Int64} {Q : Int32 → Prop} (H : ∀ r : Int32, (r = 0 ∨ r = 1) → Q r) : W_X12_isWord s w Q := by
  unfold W_X12_isWord
  exact ⟨fun _ => H 0 (Or.inl rfl), fun _ => ⟨fun _ => H 0 (Or.inl rfl), fun _ => H 1 (Or.inr rfl)⟩⟩
theorem k_isReserved {s : yS} {j : Nat} {Q : Int32 → Prop} (hc : cuM s T n j)
    (H : ∀ r : Int32, (r = 0 ∨ r = 1) → (tkK (tkJ T n j) ≠ 1 → r = if tkK (tkJ T n j) = 6 then 1 else 0) → Q r) : W_X12_isReserved s Q := by
  have h2 := tkJ_cases T n j
  dsimp only at h2
  have yes : ∀ (w : Nat) (r : Int32), (tkK (tkJ T n j) ≠ 1 → r = if isW (tkJ T n j) w then 1 else 0) → ¬ r = 0 → Q 1 := by
    intro w r hr hn
    refine H 1 (Or.inr rfl) (fun hk => ?_)
    have hr := hr hk
    by_cases c : isW (tkJ T n j) w = true
    · unfold isW at c; simp at c; rw [if_pos c.1]
    · rw [if_neg c] at hr; exact absurd hr hn
  have no : ∀ (w : Nat) (r : Int32), (tkK (tkJ T n j) ≠ 1 → r = if isW (tkJ T n j) w then 1 else 0) → r = 0 → tkK (tkJ T n j) ≠ 1 → isW (tkJ T n j) w = false := by
    intro w r hr h0 hk
    have hr := hr hk
    rw [h0] at hr
    exact if0 hr.symm
  unfold W_X12_isReserved
  rw [wd339, wd345, wd347, wd349, wd351, wd353, wd355, wd357, wd359, wd361, wd363, wd365]
  refine k_isWord hc (by omega) (fun r1 _ e1 => ⟨fun hn => yes _ _ e1 hn, fun z1 => ?_⟩)
  refine k_isWord hc (by omega) (fun r2 _ e2 => ⟨fun hn => yes _ _ e2 hn, fun z2 => ?_⟩)
  refine k_isWord hc (by omega) (fun r3 _ e3 => ⟨fun hn => yes _ _ e3 hn, fun z3 => ?_⟩)
  refine k_isWord hc (by omega) (fun r4 _ e4 => ⟨fun hn => yes _ _ e4 hn, fun z4 => ?_⟩)
  refine k_isWord hc (by omega) (fun r5 _ e5 => ⟨fun hn => yes _ _ e5 hn, fun z5 => ?_⟩)
  refine k_isWord hc (by omega) (fun r6 _ e6 => ⟨fun hn => yes _ _ e6 hn, fun z6 => ?_⟩)
  refine k_isWord hc (by omega) (fun r7 _ e7 => ⟨fun hn => yes _ _ e7 hn, fun z7 => ?_⟩)
  refine k_isWord hc (by omega) (fun r8 _ e8 => ⟨fun hn => yes _ _ e8 hn, fun z8 => ?_⟩)
  refine k_isWord hc (by omega) (fun r9 _ e9 => ⟨fun hn => yes _ _ e9 hn, fun z9 => ?_⟩)
  refine k_isWord hc (by omega) (fun r10 _ e10 => ⟨fun hn => yes _ _ e10 hn, fun z10 => ?_⟩)
  refine k_isWord hc (by omega) (fun r11 _ e11 => ⟨fun hn => yes _ _ e11 hn, fun z11 => ?_⟩)
  refine k_isWord hc (by omega) (fun r12 _ e12 => ⟨fun z12 => ?_, fun hn => yes _ _ e12 hn⟩)
  refine H 0 (Or.inl rfl) (fun hk => ?_)
  rw [if_neg]
  intro k6
  have hm := h2.2.2.2.2.2.2.1 k6
  have hlt : wdL.idxOf (tkN (tkJ T n j)) < 12 := List.idxOf_lt_length_of_mem hm.1
  have f1 := no _ _ e1 z1 hk
  have f2 := no _ _ e2 z2 hk
  have f3 := no _ _ e3 z3 hk
  have f4 := no _ _ e4 z4 hk
  have f5 := no _ _ e5 z5 hk
  have f6 := no _ _ e6 z6 hk
  have f7 := no _ _ e7 z7 hk
  have f8 := no _ _ e8 z8 hk
  have f9 := no _ _ e9 z9 hk
  have f10 := no _ _ e10 z10 hk
  have f11 := no _ _ e11 z11 hk
  have f12 := no _ _ e12 z12 hk
  unfold isW at *
  simp [k6] at f1 f2 f3 f4 f5 f6 f7 f8 f9 f10 f11 f12
  omega
theorem k_expect {s : yS} {j : Nat} {v : Int32} {k : Nat} {Q : yS → Prop} (h : txM s T n) (hc : cuM s T n j) (hv : (k = 2 ∧ v = 0) ∨ (k = 3 ∧ v = 1))
    (H1 : tkK (tkJ T n j) = k → ∀ s', nxF s s' → cuM s' T n (j + 1) → Q s') (H0 : tkK (tkJ T n j) ≠ k → ∀ s', nxF s s' → erM s' n (pRef (tkJ T n j)) → Q s') : W_X12_expect s v Q := by
  have h2 := tkJ_cases T n j
  dsimp only at h2
  unfold W_X12_expect
  intro P14 hP14
  by_cases hk1 : tkK (tkJ T n j) = 1
  · have hP : ∀ y, P14 y := fun y => hP14 y (k_mustE (hc.bad hk1) ⟨fun _ => H0 (by omega) s nxF.rfl' (hc.bad hk1), fun hh => absurd rfl hh⟩)
    exact ⟨fun _ => hP _, fun _ => hP _⟩
  have ht : (sI s 139 11) = v ↔ tkK (tkJ T n j) = k := by
    rcases hv with ⟨rfl, rfl⟩ | ⟨rfl, rfl⟩
    · exact hc.t0 hk1
    · exact hc.t1 hk1
  rw [ht]
  refine ⟨fun hn => hP14 _ (k_mustJ h hc (fun hh => absurd rfl hh) (fun _ s' F e => ⟨fun _ => H0 hn s' F e, fun hh => absurd rfl hh⟩)), fun he => hP14 _ (k_mustJ h hc (fun _ _ => ⟨fun hh => absurd hh (by decide), fun _ => k_nextJ h hc hk1 (H1 he)⟩) (fun hh => ?_))⟩
  rcases hh with hh | hh
  · exact absurd hh (by decide)
  · exact absurd hh hk1
theorem k_expectE {s : yS} {e : Nat × Nat} {v : Int32} {Q : yS → Prop} (hc : erM s n e) (H : Q s) : W_X12_expect s v Q := by
  unfold W_X12_expect
  intro P14 hP14
  have hP : ∀ y, P14 y := fun y => hP14 y (k_mustE hc ⟨fun _ => H, fun hh => absurd rfl hh⟩)
  exact ⟨fun _ => hP _, fun _ => hP _⟩
theorem k_expectWord {s : yS} {j w : Nat} {Q : yS → Prop} (h : txM s T n) (hc : cuM s T n j) (hw : w < 12)
    (H1 : isW (tkJ T n j) w = true → ∀ s', nxF s s' → cuM s' T n (j + 1) → Q s') (H0 : isW (tkJ T n j) w = false → ∀ s', nxF s s' → erM s' n (pRef (tkJ T n j)) → Q s') : W_X12_expectWord s (wdM w) Q := by
  unfold W_X12_expectWord
  refine k_isWord hc hw (fun r _ hr => ?_)
  refine k_mustJ h hc (fun hn hk => ⟨fun hh => absurd hh (by decide), fun _ => k_nextJ h hc hk (H1 ?_)⟩) (fun hh s' F e => ⟨fun _ => H0 ?_ s' F e, fun h3 => absurd rfl h3⟩)
  · rw [hr hk] at hn; exact if1 hn
  · by_cases hk : tkK (tkJ T n j) = 1
    · unfold isW; simp [hk]
    · rcases hh with hh | hh
      · rw [hr hk] at hh; exact if0 hh
      · exact absurd hh hk
theorem k_expectWordE {s : yS} {e : Nat × Nat} {w : Int64} {Q : yS → Prop} (hc : erM s n e) (H : Q s) : W_X12_expectWord s w Q := by
  unfold W_X12_expectWord
  exact k_isWordE (fun r _ => k_mustE hc ⟨fun _ => H, fun hh => absurd rfl hh⟩)
end

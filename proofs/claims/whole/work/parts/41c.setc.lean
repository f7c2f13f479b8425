section
variable {s : yS} {p : Nat}
def ssC (s : yS) (p : Nat) (S : List Int32) : Prop := (sI s p 2) = nI S.length ∧ ∀ (k : Nat) (h : k < S.length), (sI s 106) k = S[k]
def wyC2 (s : yS) (ps : PS) (S : List Int32) (k a : Nat) : Prop := ∀ (j : Nat) (hj : j < S.length) (b : Nat), b < offs ps 16 → (j < k ∨ j = k ∧ b < a) → (trA ps b S[j] = 0 ∨ trA ps b S[j] ∈ S) ∧ (sI s 107) (j * 512 + b) = wv S (trA ps b S[j])
def dSc (p a i : Nat) : Prop := (a = p ∧ i = 2) ∨ a = 106 ∨ a = 107
theorem c_setIndex {S : List Int32} {y : Int32} {Q : Int32 → yS → Prop} (hm : smC s p) (h : ssC s p S) (hl : S.length ≤ 63)
    (H1 : y ∈ S → Q (nI (S.idxOf y)) s) (H2 : ¬ y ∈ S → S.length = 63 → Q (nI 63) s)
    (H3 : ¬ y ∈ S → S.length < 63 → Q (nI S.length) (wI (wI s 106 S.length y) p 2 (nI (S.length + 1)))) : W_X7_setIndex s y Q := by
  have hp3 := hm.1
  unfold W_X7_setIndex
  intro P2 hP2
  suffices hL : ∀ (r k : Nat), k + r = S.length → (∀ (j : Nat) (hj : j < S.length), j < k → S[j] ≠ y) → P2 (nI k) from hL S.length 0 (by omega) (fun j _ hj => by omega)
  intro r
  induction r with
  | zero =>
    intro k hk hno
    have hnin : ¬ y ∈ S := by
      intro hin
      obtain ⟨j, hj, e⟩ := List.getElem_of_mem hin
      exact hno j hj (by omega) e
    apply hP2
    refine ⟨p, hm.2, hm.kd, ?_⟩
    rw [h.1, nI_leU (by omega) (by omega)]
    refine ⟨fun _ => ⟨p, hm.2, hm.kd, ?_⟩, fun hh => absurd (by omega) hh⟩
    rw [h.1, nI_inj (by omega) (by omega)]
    refine ⟨fun hne => ⟨p, hm.2, hm.kd, ?_⟩, fun he => H2 hnin he⟩
    rw [h.1, nI_ix (n := S.length) (by omega)]
    refine ⟨nI_inU (by omega) (by omega), ?_⟩
    intro s6 e6
    have r6 : sR s6 103 0 = p + 1 := by subst e6; exact hm.2
    refine ⟨p, r6, hm.kd, ?_⟩
    intro s8 e8
    have n6 : sI s6 p 2 = nI S.length := by subst e6; rw [sI_w, if_neg (by omega)]; exact h.1
    rw [n6, nI_s] at e8
    have r8 : sR s8 103 0 = p + 1 := by subst e8; exact r6
    refine ⟨p, r8, hm.kd, ?_⟩
    have n8 : sI s8 p 2 = nI (S.length + 1) := by subst e8; rw [sI_w, if_pos ⟨rfl, rfl⟩]
    rw [n8, nI_p (by omega), Nat.add_sub_cancel]
    subst e8; subst e6; exact H3 hnin (by omega)
  | succ r ih =>
    intro k hk hno
    have hkl : k < S.length := by omega
    apply hP2
    refine ⟨p, hm.2, hm.kd, ?_⟩
    rw [h.1, nI_leU (by omega) (by omega), nI_ix (n := k) (by omega), h.2 k hkl]
    refine ⟨fun hh => absurd hh (by omega), fun _ => ⟨nI_inU (by omega) (by omega), fun hne => ?_, fun he => ?_⟩⟩
    · intro x11 e11; subst e11; rw [nI_s]
      refine ih (k + 1) (by omega) (fun j hj hjk => ?_)
      by_cases cj : j = k
      · subst cj; exact hne
      · exact hno j hj (by omega)
    · have := H1 (by rw [← he]; exact List.getElem_mem hkl)
      rw [idx_first hkl hno he] at this; exact this
theorem c_makeSets {ps : PS} {Q : Int32 → yS → Prop} (hm : smC s p) (hp : poC s p ps) (hwf : wfI ps) (hl : lenP ps) (hres : resOK ps) (ho : offs ps 16 ≤ 512) (hn : ndC s ps) (hL : sI s 103 1 = nI (offs ps 16))
    (Hok : ∀ S, setsOf ps = some S → 1 ≤ S.length → S.length ≤ 63 → ∀ s', frM (dSc p) s s' → ssC s' p S → wyC2 s' ps S S.length 0 → Q 1 s')
    (Herr : setsOf ps = none → ∀ s', frM (dSc p) s s' → Q 0 s') : W_X7_makeSets s Q := by
  have hp3 := hm.1
  unfold W_X7_makeSets
  refine ⟨p, hm.2, hm.kd, ?_⟩
  intro s2 e2
  refine ⟨nI_inU (a := 0) (by omega) (by omega), ?_⟩
  intro s4 e4 P17 hP17
  have F4 : frM (dSc p) s s4 := by subst e4; subst e2; exact (frM.rfl'.wI (by unfold dSc; omega)).wI (by unfold dSc; omega)
  have S4 : ssC s4 p [1] := by
    refine ⟨by subst e4; subst e2; rw [sI_w, if_neg (by omega), sI_w, if_pos ⟨rfl, rfl⟩]; rfl, fun k hk => ?_⟩
    have : k = 0 := by simp at hk; exact hk
    subst this
    subst e4; rfl
  clear e4 e2
  generalize hR : setsOf ps = R at Hok Herr
  have hR' : R = bfs (trA ps) (offs ps 16) 64 0 [1] := hR.symm
  suffices hLp : ∀ (f k : Nat) (S : List Int32) (s6 : yS), f + k = 64 → k ≤ S.length → 1 ≤ S.length → S.length ≤ 63 → frM (dSc p) s s6 → ssC s6 p S → wyC2 s6 ps S k 0 → R = bfs (trA ps) (offs ps 16) f k S → P17 (nI k) s6 from
    hLp 64 0 [1] s4 (by omega) (by simp) (by simp) (by simp) F4 S4 (fun j hj b hb' hh => by omega) hR'
  intro f
  induction f with
  | zero => intro k S s5 hf hk _ h63; omega
  | succ f ih =>
    intro k S s6 hf hk h1 h63 F6 S6 w6 hRe
    have hm6 : smC s6 p := ⟨hp3, (F6.2.2 _ _).trans hm.2⟩
    rw [bfs] at hRe
    apply hP17
    refine ⟨p, hm6.2, hm6.kd, ?_⟩
    rw [S6.1, nI_leU (by omega) (by omega)]
    refine ⟨fun hle => ?_, fun hlt => ⟨fun h => ?_, fun _ => ?_⟩⟩
    · rw [if_neg (by omega)] at hRe
      refine Hok S hRe h1 h63 s6 F6 S6 ?_
      rw [show k = S.length by omega] at w6; exact w6
    · rw [nI_leU (by omega) (by omega)] at h; omega
    · rw [if_pos (by omega)] at hRe
      have hkl : k < S.length := by omega
      rw [getD_at hkl] at hRe
      intro P36 hP36
      suffices hA : ∀ (r a : Nat) (S1 : List Int32) (s9 : yS), a + r = offs ps 16 → S.length ≤ S1.length → S1.length ≤ 63 → (∃ (h : k < S1.length), S1[k] = S[k]) → frM (dSc p) s s9 → ssC s9 p S1 → wyC2 s9 ps S1 k a → R = (match rowR (trA ps) S[k] r a S1 with
          | none => none
          | some S' => bfs (trA ps) (offs ps 16) f (k + 1) S') → P36 (nI a) s9 from
        hA (offs ps 16) 0 S s6 (by omega) (by omega) h63 ⟨hkl, rfl⟩ F6 S6 w6 hRe
      generalize hx : S[k] = x at hRe ⊢
      intro r
      induction r with
      | zero =>
        intro a S1 s9 ha hle1 h631 hkx F9 S9 w9 hRa
        have l9 : sI s9 103 1 = nI (offs ps 16) := by rw [F9.1 _ _ (by unfold dSc; omega)]; exact hL
        obtain ⟨hk1, hkx⟩ := hkx
        apply hP36
        rw [l9, nI_leU (by omega) (by omega)]
        refine ⟨fun _ => ?_, fun hh => absurd (by omega) hh⟩
        intro x8 e8; subst e8; rw [nI_s]
        refine ih (k + 1) S1 s9 (by omega) (by omega) (by omega) h631 F9 S9 (fun j hj b hb' hh => w9 j hj b hb' (by omega)) hRa
      | succ r ihr =>
        intro a S1 s9 ha hle1 h631 hkx F9 S9 w9 hRa
        obtain ⟨c, i, hc, hi, hai⟩ := let_of (ps := ps) (a := a) (by omega)
        have hm9 : smC s9 p := ⟨hp3, (F9.2.2 _ _).trans hm.2⟩
        have p9 : poC s9 p ps := hp.fr (fun a i ha => F9.1 _ _ (by unfold dSc; omega))
        have n9 : ndC s9 ps := fun c i n h1 h2 h3 => by rw [F9.1 _ _ (by unfold dSc; omega)]; exact hn c i n h1 h2 h3
        have l9 : sI s9 103 1 = nI (offs ps 16) := by rw [F9.1 _ _ (by unfold dSc; omega)]; exact hL
        obtain ⟨hk1, hkx⟩ := hkx
        apply hP36
        rw [l9, nI_leU (by omega) (by omega)]
        refine ⟨fun hh => absurd hh (by omega), fun _ => ⟨nI_inU (by omega) (by omega), ?_⟩⟩
        rw [nI_ix (n := k) (by omega), S9.2 k hk1, hkx, hai]
        refine c_leadSet hm9 p9 hwf hl hres ho n9 hc hi ?_
        rw [← trA_eq hc hi, ← hai]
        rw [rowR] at hRa
        generalize hy : trA ps a x = y at hRa
        intro P69 hP69
        have put : ∀ (S2 : List Int32) (s14 : yS) (z : Int32), S1.length ≤ S2.length → S2.length ≤ 63 → (∃ (h : k < S2.length), S2[k] = x) → (y = 0 ∨ y ∈ S2) → z = wv S2 y → frM (dSc p) s s14 → ssC s14 p S2 → wyC2 s14 ps S2 k a → R = (match rowR (trA ps) x r (a + 1) S2 with
            | none => none
            | some S' => bfs (trA ps) (offs ps 16) f (k + 1) S') → P69 z s14 := by
          intro S2 s14 z hle2 h632 hkx2 hy2 hz F14 S14 w14 hR2
          apply hP69
          have hzne : ¬ z = nI 63 := by
            rw [hz]; unfold wv
            split
            · exact fun hh => absurd hh (by decide)
            · rename_i h0
              have := List.idxOf_lt_length_of_mem (hy2.resolve_left h0)
              rw [nI_inj (by omega) (by omega)]; omega
          refine ⟨fun _ => ?_, fun hh => absurd hh hzne⟩
          rw [nI_mul, nI_addU, nI_ix (n := k * 512 + a) (by omega)]
          refine ⟨nI_inU (by omega) (by omega), ?_⟩
          intro s16 e16 x17 e17
          subst e17; rw [nI_s]
          refine ihr (a + 1) S2 s16 (by omega) (by omega) h632 hkx2 (by subst e16; exact F14.wI (by unfold dSc; omega)) ⟨by subst e16; rw [sI_w, if_neg (by omega)]; exact S14.1, fun j hj => by subst e16; rw [sI_w, if_neg (by omega)]; exact S14.2 j hj⟩ (fun j hj b hb' hh => ?_) hR2
          by_cases cn : j = k ∧ b = a
          · obtain ⟨rfl, rfl⟩ := cn
            obtain ⟨_, hkx2⟩ := hkx2
            rw [hkx2, hy]
            exact ⟨hy2, by subst e16; rw [sI_w, if_pos ⟨rfl, rfl⟩]; exact hz⟩
          · have := w14 j hj b hb' (by omega)
            exact ⟨this.1, by subst e16; rw [sI_w, if_neg (by omega)]; exact this.2⟩
        refine ⟨fun hne => c_setIndex hm9 S9 h631 (fun hin => ?_) (fun hnin hlen => ?_) (fun hnin hlen => ?_), fun h0 => ?_⟩
        · have ha2 : addS S1 y = some S1 := by unfold addS; rw [if_pos (Or.inr hin)]
          rw [ha2] at hRa
          exact put S1 s9 _ (by omega) h631 ⟨hk1, hkx⟩ (Or.inr hin) (by unfold wv; rw [if_neg hne]) F9 S9 w9 hRa
        · have ha2 : addS S1 y = none := by unfold addS; rw [if_neg (by intro hh; exact hh.elim hne hnin), if_pos hlen]
          rw [ha2] at hRa
          apply hP69
          exact ⟨fun hh => absurd rfl hh, fun _ => Herr hRa s9 F9⟩
        · have ha2 : addS S1 y = some (S1 ++ [y]) := by unfold addS; rw [if_neg (by intro hh; exact hh.elim hne hnin), if_neg (by omega)]
          rw [ha2] at hRa
          have hl2 : (S1 ++ [y]).length = S1.length + 1 := by rw [List.length_append]; rfl
          refine put (S1 ++ [y]) _ _ (by omega) (by omega) ⟨by omega, by rw [List.getElem_append_left hk1]; exact hkx⟩ (Or.inr (by simp)) ?_ ((F9.wI (by unfold dSc; omega)).wI (by unfold dSc; omega)) ⟨by rw [sI_w, if_pos ⟨rfl, rfl⟩, hl2], fun j hj => ?_⟩ (fun j hj b hb' hh => ?_) hRa
          · unfold wv; rw [if_neg hne, List.idxOf_append, if_neg hnin]; simp
          · by_cases cj : j = S1.length
            · subst cj
              rw [List.getElem_append_right (by omega)]
              simp only [Nat.sub_self, List.getElem_cons_zero]
              rw [sI_w, if_neg (by omega), sI_w, if_pos ⟨rfl, rfl⟩]
            · rw [List.getElem_append_left (by omega), sI_w, if_neg (by omega), sI_w, if_neg (by omega)]; exact S9.2 j (by omega)
          · have hj1 : j < S1.length := by omega
            rw [List.getElem_append_left hj1]
            have := w9 j hj1 b hb' hh
            refine ⟨this.1.elim Or.inl (fun h => Or.inr (by simp [h])), ?_⟩
            rw [wv_app this.1, sI_w, if_neg (by omega), sI_w, if_neg (by omega)]; exact this.2
        · have ha2 : addS S1 y = some S1 := by unfold addS; rw [if_pos (Or.inl h0)]
          rw [ha2] at hRa
          exact put S1 s9 _ (by omega) h631 ⟨hk1, hkx⟩ (Or.inl h0) (by unfold wv; rw [if_pos h0]) F9 S9 w9 hRa
end

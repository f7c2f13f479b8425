section
variable {s : yS}
/-- the ways that are known: those of sets below k, and the letters below a of set k -/
def wyM (s : yS) (ps : PS) (S : List Int32) (k a : Nat) : Prop := ∀ (j : Nat) (hj : j < S.length) (b : Nat), b < offs ps 16 → (j < k ∨ j = k ∧ b < a) → (trA ps b S[j] = 0 ∨ trA ps b S[j] ∈ S) ∧ (sI s 171) (512 * j + b) = wv S (trA ps b S[j])
def dS (a i : Nat) : Prop := (a = 139 ∧ i = 51) ∨ a = 170 ∨ a = 171 ∨ a = 175 ∨ a = 176
def dSe (a i : Nat) : Prop := (a = 139 ∧ (i = 51 ∨ i = 15 ∨ i = 16)) ∨ a = 170 ∨ a = 171 ∨ a = 175 ∨ a = 176
theorem ltM.fr {s' : yS} {ps : PS} {c i : Nat} (h : ltM s ps c i) (h1 : (sI s' 139 47) = (sI s 139 47)) (h2 : ∀ a x, (a = 165 ∨ a = 166) → sI s' a x = sI s a x) : ltM s' ps c i :=
  ⟨h1.trans h.1, fun c' j hh => ⟨(h2 _ _ (by omega)).trans (h.2 c' j hh).1, fun d hd => (h2 _ _ (by omega)).trans ((h.2 c' j hh).2 d hd)⟩⟩
theorem k_makeSets {ps : PS} {n : Nat} {Q : yS → Prop} (htx : (sI s 139 9) = nI n) (hp : poM s ps) (hwf : wfI ps) (hl : lenP ps) (hres : resOK ps) (ht : ltM s ps 16 0) (ho : offs ps 16 ≤ 512) (hb : (sI s 139 15) = 0)
    (Hok : ∀ S, setsOf ps = some S → 1 ≤ S.length → S.length ≤ 63 → ∀ s', frM dS s s' → ssM s' S → wyM s' ps S S.length 0 → Q s')
    (Herr : setsOf ps = none → ∀ s', frM dSe s s' → (sI s' 139 15) = nI 8 → (sI s' 139 16) = nI n → Q s') : W_X12_makeSets s Q := by
  unfold W_X12_makeSets
  refine ⟨nI_inU (a := 0) (by omega) (by omega), ?_⟩
  intro s2 e2 s3 e3 P14 hP14
  have F3 : frM dS s s3 := by subst e3; subst e2; exact (frM.rfl'.wI (by unfold dS; omega)).wI (by unfold dS; omega)
  have S3 : ssM s3 [1] := by
    refine ⟨by subst e3; rfl, fun k hk => ?_⟩
    have : k = 0 := by simp at hk; exact hk
    subst this
    subst e3; subst e2; rw [sI_w, if_neg (by omega)]; rfl
  clear e3 e2
  generalize hR : setsOf ps = R at Hok Herr
  have hR' : R = bfs (trA ps) (offs ps 16) 64 0 [1] := hR.symm
  suffices hL : ∀ (f k : Nat) (S : List Int32) (s5 : yS), f + k = 64 → k ≤ S.length → 1 ≤ S.length → S.length ≤ 63 → frM dS s s5 → ssM s5 S → wyM s5 ps S k 0 → R = bfs (trA ps) (offs ps 16) f k S → P14 (nI k) s5 from
    hL 64 0 [1] s3 (by omega) (by simp) (by simp) (by simp) F3 S3 (fun j hj b hb' hh => by omega) hR'
  intro f
  induction f with
  | zero => intro k S s5 hf hk _ h63; omega
  | succ f ih =>
    intro k S s5 hf hk h1 h63 F5 S5 w5 hRe
    rw [bfs] at hRe
    apply hP14
    rw [S5.1, nI_leU (by omega) (by omega)]
    refine ⟨fun hle => ?_, fun hlt => ?_⟩
    · rw [if_neg (by omega)] at hRe
      refine Hok S hRe h1 h63 s5 F5 S5 ?_
      rw [show k = S.length by omega] at w5; exact w5
    · rw [if_pos (by omega)] at hRe
      have hkl : k < S.length := by omega
      rw [getD_at hkl] at hRe
      intro P24 hP24
      suffices hA : ∀ (r a : Nat) (S1 : List Int32) (s7 : yS), a + r = offs ps 16 → S.length ≤ S1.length → S1.length ≤ 63 → (∃ (h : k < S1.length), S1[k] = S[k]) → frM dS s s7 → ssM s7 S1 → wyM s7 ps S1 k a → R = (match rowR (trA ps) S[k] r a S1 with
          | none => none
          | some S' => bfs (trA ps) (offs ps 16) f (k + 1) S') → P24 (nI a) s7 from
        hA (offs ps 16) 0 S s5 (by omega) (by omega) h63 ⟨hkl, rfl⟩ F5 S5 w5 hRe
      generalize hx : S[k] = x at hRe ⊢
      intro r
      induction r with
      | zero =>
        intro a S1 s7 ha hle1 h631 hkx F7 S7 w7 hRa
        have l7 : sI s7 139 47 = nI (offs ps 16) := by rw [F7.1 _ _ (by unfold dS; omega), ht.1]; rfl
        obtain ⟨hk1, hkx⟩ := hkx
        apply hP24
        rw [l7, nI_leU (by omega) (by omega)]
        refine ⟨fun _ => ?_, fun hh => absurd (by omega) hh⟩
        intro x8 e8; subst e8; rw [nI_s]
        refine ih (k + 1) S1 s7 (by omega) (by omega) (by omega) h631 F7 S7 (fun j hj b hb' hh => w7 j hj b hb' (by omega)) hRa
      | succ r ihr =>
        intro a S1 s7 ha hle1 h631 hkx F7 S7 w7 hRa
        obtain ⟨c, i, hc, hi, hai⟩ := let_of (ps := ps) (a := a) (by omega)
        have l7 : sI s7 139 47 = nI (offs ps 16) := by rw [F7.1 _ _ (by unfold dS; omega), ht.1]; rfl
        have t7 : ltM s7 ps 16 0 := ht.fr (F7.1 _ _ (by unfold dS; omega)) (fun a x h => F7.1 _ _ (by unfold dS; omega))
        obtain ⟨hk1, hkx⟩ := hkx
        apply hP24
        rw [l7, nI_leU (by omega) (by omega)]
        refine ⟨fun hh => absurd hh (by omega), fun _ => ?_⟩
        rw [hai]
        refine k_setLetter t7 ho hc hi (fun s9 F9 v9 => ⟨nI_inU (by omega) (by omega), nI_inU (by omega) (by omega), ?_⟩)
        have FS9 : frM dS s s9 := F7.trans (F9.mono (fun a i h => by unfold dS; omega))
        have S9 : ssM s9 S1 := ⟨(F9.1 _ _ (by omega)).trans S7.1, fun j hj => (F9.1 _ _ (by omega)).trans (S7.2 j hj)⟩
        have w9 : wyM s9 ps S1 k a := fun j hj b hb' hh => ⟨(w7 j hj b hb' hh).1, (F9.1 _ _ (by omega)).trans (w7 j hj b hb' hh).2⟩
        have p9 := hp.fr (s' := s9) (fun a i ha => FS9.1 _ _ (by unfold dS; omega)) (fun a i h1 h2 => FS9.2.1 _ _ (by unfold dS; omega))
        have c9 : sI s9 165 (offs ps c + i) = nI c := by rw [FS9.1 _ _ (by unfold dS; omega)]; exact (ht.2 c i (Or.inl ⟨hc, hi⟩)).1
        have b9 : sI s9 139 15 = 0 := by rw [FS9.1 _ _ (by unfold dS; omega)]; exact hb
        have x9 : sI s9 139 9 = nI n := by rw [FS9.1 _ _ (by unfold dS; omega)]; exact htx
        rw [nI_ix (n := k) (by omega), nI_ix (n := offs ps c + i) (by omega), S9.2 k hk1, hkx, c9]
        refine k_step p9 hwf hl hres hc v9 ?_
        rw [← trA_eq hc hi, ← hai]
        rw [rowR] at hRa
        generalize hy : trA ps a x = y at hRa
        intro P106 hP106
        -- what is put down
        have put : ∀ (S2 : List Int32) (s13 : yS), S1.length ≤ S2.length → S2.length ≤ 63 → (∃ (h : k < S2.length), S2[k] = x) → (y = 0 ∨ y ∈ S2) → frM dS s s13 → ssM s13 S2 → wyM s13 ps S2 k a → R = (match rowR (trA ps) x r (a + 1) S2 with
            | none => none
            | some S' => bfs (trA ps) (offs ps 16) f (k + 1) S') → P106 s13 := by
          intro S2 s13 hle2 h632 hkx2 hy2 F13 S13 w13 hR2
          apply hP106
          intro P130 hP130
          have go : ∀ z : Int32, z = wv S2 y → P130 z := by
            intro z hz
            apply hP130
            rw [nI_mul, nI_addU, nI_ix (n := 512 * k + a) (by omega)]
            refine ⟨nI_inU (by omega) (by omega), ?_⟩
            intro s16 e16 x17 e17
            subst e17; rw [nI_s]
            refine ihr (a + 1) S2 s16 (by omega) (by omega) h632 hkx2 (by subst e16; exact F13.wI (by unfold dS; omega)) ⟨by subst e16; rw [sI_w, if_neg (by omega)]; exact S13.1, fun j hj => by subst e16; rw [sI_w, if_neg (by omega)]; exact S13.2 j hj⟩ (fun j hj b hb' hh => ?_) hR2
            by_cases cn : j = k ∧ b = a
            · obtain ⟨rfl, rfl⟩ := cn
              obtain ⟨_, hkx2⟩ := hkx2
              rw [hkx2, hy]
              exact ⟨hy2, by subst e16; rw [sI_w, if_pos ⟨rfl, rfl⟩]; exact hz⟩
            · have := w13 j hj b hb' (by omega)
              exact ⟨this.1, by subst e16; rw [sI_w, if_neg (by omega)]; exact this.2⟩
          refine ⟨fun hne => k_indexOf S13 h632 (go _ ?_), fun h0 => go _ ?_⟩
          · rw [if_pos (hy2.resolve_left hne)]; unfold wv; rw [if_neg hne]
          · unfold wv; rw [if_pos h0]
        by_cases hold : y = 0 ∨ y ∈ S1
        · have ha2 : addS S1 y = some S1 := by unfold addS; rw [if_pos hold]
          rw [ha2] at hRa
          dsimp only at hRa
          have hP := put S1 s9 (by omega) h631 ⟨hk1, hkx⟩ hold FS9 S9 w9 hRa
          refine ⟨fun _ => hP, fun hne => k_indexOf S9 h631 ?_⟩
          rw [if_pos (hold.resolve_left hne)]
          refine ⟨fun _ => hP, fun hh => absurd ?_ hh⟩
          rw [nI_0U, nI_leU (by omega) (by have := List.idxOf_lt_length_of_mem (hold.resolve_left hne); omega)]; omega
        · have hne : ¬ y = 0 := fun h => hold (Or.inl h)
          have hnin : ¬ y ∈ S1 := fun h => hold (Or.inr h)
          refine ⟨fun h0 => absurd h0 hne, fun _ => k_indexOf S9 h631 ?_⟩
          rw [if_neg hnin]
          refine ⟨fun hh => absurd hh (by decide), fun _ => ?_⟩
          rw [S9.1, nI_inj (by omega) (by omega)]
          refine ⟨fun hlen => ?_, fun hlen => ?_⟩
          · have ha2 : addS S1 y = some (S1 ++ [y]) := by unfold addS; rw [if_neg hold, if_neg hlen]
            rw [ha2] at hRa
            dsimp only at hRa
            rw [nI_ix (n := S1.length) (by omega)]
            refine ⟨nI_inU (by omega) (by omega), ?_⟩
            intro s21 e21 s22 e22
            have n21 : sI s21 139 51 = nI S1.length := by subst e21; rw [sI_w, if_neg (by omega)]; exact S9.1
            rw [n21, nI_s] at e22
            have hl2 : (S1 ++ [y]).length = S1.length + 1 := by rw [List.length_append]; rfl
            refine put (S1 ++ [y]) s22 (by omega) (by omega) ⟨by omega, by rw [List.getElem_append_left hk1]; exact hkx⟩ (Or.inr (by simp)) (by subst e22; subst e21; exact (FS9.wI (by unfold dS; omega)).wI (by unfold dS; omega)) ⟨by subst e22; rw [sI_w, if_pos ⟨rfl, rfl⟩, hl2], fun j hj => ?_⟩ (fun j hj b hb' hh => ?_) hRa
            · by_cases cj : j = S1.length
              · subst cj
                rw [List.getElem_append_right (by omega)]
                simp only [Nat.sub_self, List.getElem_cons_zero]
                subst e22; subst e21; rw [sI_w, if_neg (by omega), sI_w, if_pos ⟨rfl, rfl⟩]
              · rw [List.getElem_append_left (by omega)]
                subst e22; subst e21; rw [sI_w, if_neg (by omega), sI_w, if_neg (by omega)]; exact S9.2 j (by omega)
            · have hj1 : j < S1.length := by omega
              rw [List.getElem_append_left hj1]
              have := w9 j hj1 b hb' hh
              refine ⟨this.1.elim Or.inl (fun h => Or.inr (by simp [h])), ?_⟩
              rw [wv_app this.1]
              subst e22; subst e21; rw [sI_w, if_neg (by omega), sI_w, if_neg (by omega)]; exact this.2
          · have ha2 : addS S1 y = none := by unfold addS; rw [if_neg hold, if_pos hlen]
            rw [ha2] at hRa
            dsimp only at hRa
            rw [x9]
            refine k_wrong (fun hh => absurd b9 hh) (fun _ => Herr hRa _ ?_ ?_ ?_)
            · exact ((FS9.mono (fun a i h => by unfold dS at h; unfold dSe; omega)).wI (by unfold dSe; omega)).wI (by unfold dSe; omega)
            · rw [sI_w, if_neg (by omega), sI_w, if_pos ⟨rfl, rfl⟩]
            · rw [sI_w, if_pos ⟨rfl, rfl⟩]
end

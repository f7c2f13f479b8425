/-! ===== the reference looks names up ===== -/
def gdD : Gd := (false, 0, [], 0, 0, 0, false)
def wyD : Wy := (0, 0, 0, 0, [], 0)
/-- the fault of a name, if it has one -/
def lkE (ps : PS) (l : Lk) : Option (Nat × Nat) :=
  if l.1 = 2 then (if 0 ≤ l.2.2.1 ∧ l.2.2.1 % 4 ≤ gW ((pG ps).getD l.2.1 gdD) then some (6, l.2.2.2) else none)
  else if l.1 = 0 then (if gN' ((pG ps).getD l.2.1 gdD) ∈ (pC ps).map Prod.fst then none else some (5, l.2.2.2))
  else (if wN ((pW ps).getD l.2.1 wyD) ∈ pN ps then none else some (5, l.2.2.2))
def pRes (ps : PS) : Option (Nat × Nat) := (lkOf ps).findSome? (lkE ps)
/-- what a name that is looked up leaves -/
def lkD (s : yS) (ps : PS) (l : Lk) : Prop := (l.1 = 0 → (sI s 159) l.2.1 = nI (((pC ps).map Prod.fst).idxOf (gN' ((pG ps).getD l.2.1 gdD)))) ∧ (l.1 = 1 → (sI s 157) l.2.1 = nI ((pN ps).idxOf (wN ((pW ps).getD l.2.1 wyD))))
/-- a look is of something that is there -/
def lkOK (ps : PS) (l : Lk) : Prop := (l.1 = 0 ∧ l.2.1 < (pG ps).length ∧ gC ((pG ps).getD l.2.1 gdD) = true) ∨ (l.1 = 1 ∧ l.2.1 < (pW ps).length) ∨ (l.1 = 2 ∧ l.2.1 < (pG ps).length ∧ gC ((pG ps).getD l.2.1 gdD) = false ∧ -1 ≤ l.2.2.1 ∧ l.2.2.1 ≤ 15)
/-- lengths and names for the look -/
def rsOK (ps : PS) : Prop := ((pC ps).map Prod.fst).Nodup ∧ (pN ps).Nodup ∧ (∀ c ∈ pC ps, isNm c.1) ∧ (∀ x ∈ pN ps, isNm x) ∧ (∀ d ∈ pG ps, gdOK d) ∧ (∀ w ∈ pW ps, isNm (wN w)) ∧ (pC ps).length ≤ 6 ∧ (pN ps).length ≤ 24 ∧ (pW ps).length ≤ 192 ∧ (pG ps).length ≤ 864 ∧ (lkOf ps).length ≤ 1080 ∧ ∀ l ∈ lkOf ps, lkOK ps l
def dR (a i : Nat) : Prop := a = 157 ∨ a = 159
def dRe (a i : Nat) : Prop := a = 157 ∨ a = 159 ∨ (a = 139 ∧ (i = 15 ∨ i = 16))
theorem idx_at {l : List (List Nat)} (hd : l.Nodup) {k : Nat} (hk : k < l.length) {x : List Nat} (h : l[k] = x) : l.idxOf x = k := by rw [← h]; exact List.Nodup.idxOf_getElem hd k hk
theorem getD_at {α : Type} {l : List α} {k : Nat} {d : α} (hk : k < l.length) : l.getD k d = l[k] := by rw [List.getD_eq_getElem?_getD, List.getElem?_eq_getElem hk]; rfl
theorem findSome_take {α β : Type} {f : α → Option β} : ∀ (l : List α) (i : Nat) (h : i < l.length), (∀ (k : Nat) (hk : k < l.length), k < i → f l[k] = none) → f l[i] ≠ none → l.findSome? f = f l[i]
  | [], i, h, _, _ => by simp at h
  | a :: l, 0, h, _, hn => by
    rw [List.findSome?_cons]
    show (match f a with | some b => some b | none => _) = f a
    cases hf : f a with
    | none => exact absurd hf hn
    | some b => rfl
  | a :: l, i + 1, h, hp, hn => by
    rw [List.findSome?_cons]
    have h0 : f a = none := hp 0 (by simp) (by omega)
    rw [h0]
    exact findSome_take l i (by simp at h; omega) (fun k hk hki => hp (k + 1) (by simp; omega) (by omega)) hn
theorem findSome_none {α β : Type} {f : α → Option β} {l : List α} (h : ∀ (k : Nat) (hk : k < l.length), f l[k] = none) : l.findSome? f = none := by
  rw [List.findSome?_eq_none_iff]
  intro x hx
  obtain ⟨k, hk, e⟩ := List.getElem_of_mem hx
  rw [← e]; exact h k hk
section
variable {n : Nat}
theorem k_resolve {s : yS} {ps : PS} {Q : yS → Prop} (hps : psM s ps) (hok : rsOK ps) (hb : (sI s 139 15) = 0)
    (Hok : pRes ps = none → ∀ s', frM dR s s' → (∀ g, g < (pG ps).length → gC ((pG ps).getD g gdD) = false → (sI s' 159) g = (sI s 159) g) → (∀ l ∈ lkOf ps, lkD s' ps l) → Q s')
    (Herr : ∀ e, pRes ps = some e → ∀ s', frM dRe s s' → (sI s' 139 15) = nI e.1 → (sI s' 139 16) = nI e.2 → 5 ≤ e.1 → e.1 ≤ 6 → Q s') : W_X12_resolve s Q := by
  obtain ⟨hcs, hrs, hns, hws, hgs, hlk⟩ := hps
  obtain ⟨o1, o2, o3, o4, o5, o6, o7, o8, o9, o10, o11, o12⟩ := hok
  unfold W_X12_resolve
  intro P2 hP2
  suffices hL : ∀ (r i : Nat) (s2 : yS), i + r = (lkOf ps).length → frM dR s s2 → (∀ (k : Nat) (hk : k < (lkOf ps).length), k < i → lkE ps (lkOf ps)[k] = none ∧ lkD s2 ps (lkOf ps)[k]) → (∀ g, g < (pG ps).length → gC ((pG ps).getD g gdD) = false → (sI s2 159) g = (sI s 159) g) → P2 (nI i) s2 from
    hL (lkOf ps).length 0 s (by omega) frM.rfl' (fun k _ hk => by omega) (fun _ _ _ => rfl)
  intro r
  induction r with
  | zero =>
    intro i s2 hi F2 hD hW
    have l2 : (sI s2 139 43) = nI (lkOf ps).length := (F2.1 _ _ (by unfold dR; omega)).trans hlk.1
    apply hP2
    rw [l2, nI_leU (by omega) (by omega)]
    refine ⟨fun _ => Hok (findSome_none (fun k hk => (hD k hk (by omega)).1)) s2 F2 hW (fun l hl => ?_), fun hh => absurd (by omega) hh⟩
    obtain ⟨k, hk, e⟩ := List.getElem_of_mem hl
    rw [← e]; exact (hD k hk (by omega)).2
  | succ r ih =>
    intro i s2 hi F2 hD hW
    have hil : i < (lkOf ps).length := by omega
    have l2 : (sI s2 139 43) = nI (lkOf ps).length := (F2.1 _ _ (by unfold dR; omega)).trans hlk.1
    have b2 : (sI s2 139 15) = 0 := (F2.1 _ _ (by unfold dR; omega)).trans hb
    have hlo := o12 _ (List.getElem_mem hil)
    have hl1 := hlk.2 i hil
    unfold lk1 at hl1
    have f164 : ∀ k, sI s2 164 k = sI s 164 k := fun k => F2.1 _ _ (by unfold dR; omega)
    apply hP2
    rw [l2, nI_leU (by omega) (by omega)]
    refine ⟨fun hh => absurd hh (by omega), fun _ => ⟨fun hh => absurd b2 hh, fun _ => ?_⟩⟩
    rw [nI_mul, nI_s, nI_addU, nI_addU, nI_ix (by omega), nI_ix (by omega), nI_ix (by omega), nI_ix (by omega)]
    refine ⟨nI_inU (by omega) (by omega), ?_⟩
    intro x4 e4
    refine ⟨nI_inU (by omega) (by omega), ?_⟩
    intro x6 e6
    refine ⟨nI_inU (by omega) (by omega), ?_⟩
    intro x8 e8
    intro P214 hP214
    rw [f164, hl1.1] at e4
    rw [f164, hl1.2.1] at e6
    rw [f164, hl1.2.2.1] at e8
    rw [f164, hl1.2.2.2]
    generalize hl : (lkOf ps)[i] = l at *
    obtain ⟨w, o, c, p⟩ := l
    dsimp only at e4 e6 e8
    subst e4; subst e6; subst e8
    have go : ∀ s9 : yS, frM dR s s9 → lkE ps (w, o, c, p) = none → lkD s9 ps (w, o, c, p) → (∀ l', lkD s2 ps l' → lkD s9 ps l') → (∀ g, g < (pG ps).length → gC ((pG ps).getD g gdD) = false → (sI s9 159) g = (sI s2 159) g) → P214 s9 := by
      intro s9 F9 h1 h2 h3 h4
      apply hP214
      intro x10 e10; subst e10; rw [nI_s]
      refine ih (i + 1) s9 (by omega) F9 (fun k hk hki => ?_) (fun g hg hgc => (h4 g hg hgc).trans (hW g hg hgc))
      by_cases ck : k = i
      · subst ck; rw [hl]; exact ⟨h1, h2⟩
      · have := hD k hk (by omega); exact ⟨this.1, h3 _ this.2⟩
    have bad : ∀ cd : Nat, 5 ≤ cd → cd ≤ 6 → lkE ps (w, o, c, p) = some (cd, p) → W_X12_wrong s2 (nI cd) (nI p) (fun s28 => P214 s28) := by
      intro cd hc1 hc2 he
      refine k_wrong (fun hh => absurd b2 hh) (fun _ => ?_)
      have hres : pRes ps = some (cd, p) := by
        unfold pRes
        rw [findSome_take (lkOf ps) i hil (fun k hk hki => (hD k hk hki).1) (by rw [hl, he]; simp), hl, he]
      apply hP214
      intro x10 e10
      have Fe : frM dRe s (wI (wI s2 139 15 (nI cd)) 139 16 (nI p)) := ((F2.mono (fun a i h => by unfold dR at h; unfold dRe; omega)).wI (by unfold dRe; omega)).wI (by unfold dRe; omega)
      have hQ := Herr _ hres _ Fe (by rw [sI_w, if_neg (by omega), sI_w, if_pos ⟨rfl, rfl⟩]) (by rw [sI_w, if_pos ⟨rfl, rfl⟩]) hc1 hc2
      apply hP2
      refine ⟨fun _ => hQ, fun _ => ⟨fun _ => hQ, fun hh => ?_⟩⟩
      rw [sI_w, if_neg (by omega), sI_w, if_pos ⟨rfl, rfl⟩, nI_0U, nI_inj (by omega) (by omega)] at hh
      omega
    have hob : o < 864 ∧ w ≤ 2 := by
      rcases hlo with ⟨h1, h2, _⟩ | ⟨h1, h2⟩ | ⟨h1, h2, _⟩ <;> (dsimp only at h1 h2; omega)
    have w0 : nI w = 0 ↔ w = 0 := by rw [nI_0U, nI_inj (by omega) (by omega)]
    rw [nI_inj (by omega) (by omega), w0]
    refine ⟨fun hw2 => ?_, fun hw2 => ?_⟩
    · intro P97 hP97
      have hw01 : w = 0 ∨ w = 1 := by omega
      rcases hw01 with hw0 | hw0
      · subst hw0
        have hlo2 : o < (pG ps).length ∧ gC ((pG ps).getD o gdD) = true := by
          rcases hlo with h1 | h1 | h1
          · exact ⟨h1.2.1, h1.2.2⟩
          · exact absurd h1.1 (by simp)
          · exact absurd h1.1 (by simp)
        have hto : isNm (gN' ((pG ps).getD o gdD)) := by rw [getD_at hlo2.1] at hlo2 ⊢; exact ((o5 _ (List.getElem_mem hlo2.1)).2.1 hlo2.2).2
        have nodup : ((pC ps).map Prod.fst).Nodup := o1
        have hnn : ∀ x ∈ (pC ps).map Prod.fst, isNm x := by intro x hx; rw [List.mem_map] at hx; obtain ⟨c', hc1, hc2⟩ := hx; rw [← hc2]; exact o3 c' hc1
        have hlen : ((pC ps).map Prod.fst).length ≤ 6 := by rw [List.length_map]; omega
        have hname : ∀ (k : Nat) (hk : k < ((pC ps).map Prod.fst).length), sJ s2 144 k = Int64.ofInt (c27 0 ((pC ps).map Prod.fst)[k]) := by
          intro k hk
          rw [F2.2.1 _ _ (by unfold dR; omega)]
          rw [List.length_map] at hk
          rw [List.getElem_map]; exact (hcs.2 k hk).1
        have hcnt : (sI s2 139 19) = nI ((pC ps).map Prod.fst).length := by
          rw [F2.1 _ _ (by unfold dR; omega)]; rw [List.length_map]; exact hcs.1
        have htn : sJ s2 160 o = Int64.ofInt (c27 0 (gN' ((pG ps).getD o gdD))) := by
          rw [F2.2.1 _ _ (by unfold dR; omega)]; rw [getD_at hlo2.1] at hlo2 ⊢; exact (hgs.2 o hlo2.1).2.2.2.2.2 hlo2.2
        suffices hI : ∀ (m k : Nat) (x11 : Int32), k + m = ((pC ps).map Prod.fst).length → ((x11 = -1 ∧ ∀ (q : Nat) (hq : q < ((pC ps).map Prod.fst).length), q < k → ((pC ps).map Prod.fst)[q] ≠ gN' ((pG ps).getD o gdD)) ∨ (gN' ((pG ps).getD o gdD) ∈ (pC ps).map Prod.fst ∧ x11 = nI (((pC ps).map Prod.fst).idxOf (gN' ((pG ps).getD o gdD))))) → P97 x11 (nI k) from
          hI ((pC ps).map Prod.fst).length 0 (-1) (by omega) (Or.inl ⟨rfl, fun q _ hq => by omega⟩)
        intro m
        induction m with
        | zero =>
          intro k x11 hk hx
          apply hP97
          intro P114 hP114
          refine ⟨fun hz => absurd rfl hz, fun hz => ?_⟩
          rw [hcnt]
          apply hP114
          rw [nI_leU (by omega) (by omega)]
          refine ⟨fun _ => ⟨fun hx0 => ?_, fun hx0 => ⟨nI_inU (by omega) (by omega), ?_⟩⟩, fun hh => absurd (by omega) hh⟩
          · have hin : gN' ((pG ps).getD o gdD) ∈ (pC ps).map Prod.fst ∧ x11 = nI (((pC ps).map Prod.fst).idxOf (gN' ((pG ps).getD o gdD))) := by
              rcases hx with hx | hx
              · rw [hx.1] at hx0; exact absurd hx0 (by decide)
              · exact hx
            refine ⟨fun hh => absurd rfl hh, fun hh => ?_⟩
            refine ⟨by rw [vp_in_iffU, nI_toIntU (by omega)]; omega, ?_⟩
            intro s15 e15
            rw [nI_ix (by omega), hin.2] at e15
            refine go s15 (by subst e15; exact F2.wI (by unfold dR; omega)) ?_ ?_ ?_ ?_
            · unfold lkE; simp [hin.1]; try (simpa using hin.1)
            · refine ⟨fun h0 => ?_, fun h0 => absurd h0 (by simp)⟩
              subst e15; rw [sI_w, if_pos ⟨rfl, rfl⟩]
            · intro l' hl'
              subst e15
              refine ⟨fun h0 => ?_, fun h0 => ?_⟩
              · rw [sI_w]; split
                · rename_i h3; rw [h3.2]
                · exact hl'.1 h0
              · rw [sI_w]; rw [if_neg (by omega)]; exact hl'.2 h0
            · intro g hg hgc
              subst e15; rw [sI_w, if_neg]
              rintro ⟨h1, h2⟩
              rw [h2] at hgc; rw [hgc] at hlo2; exact absurd hlo2.2 (by decide)
          · rcases hx with hx | hx
            · refine bad 5 (by omega) (by omega) ?_
              have hnin : ¬ gN' ((pG ps).getD o gdD) ∈ (pC ps).map Prod.fst := by
                intro hin
                obtain ⟨q, hq, e⟩ := List.getElem_of_mem hin
                exact hx.2 q hq (by omega) e
              unfold lkE
              simp; intro x hx1; exact hnin (List.mem_map.mpr ⟨_, hx1, rfl⟩)
            · exfalso; apply hx0
              rw [hx.2, nI_0U, nI_leU (by omega) (by have := List.idxOf_lt_length_of_mem hx.1; omega)]; omega
        | succ m ih2 =>
          intro k x11 hk hx
          have hkl : k < ((pC ps).map Prod.fst).length := by omega
          apply hP97
          intro P114 hP114
          refine ⟨fun hz => absurd rfl hz, fun hz => ?_⟩
          rw [hcnt]
          apply hP114
          rw [nI_leU (by omega) (by omega)]
          refine ⟨fun hh => absurd hh (by omega), fun _ => ?_⟩
          intro P162 hP162 P158 hP158
          refine ⟨fun hh => absurd rfl hh, fun hh => ?_⟩
          refine ⟨nI_inU (by omega) (by omega), by rw [vp_in_iffU, nI_toIntU (by omega)]; omega, ?_⟩
          rw [nI_ix (by omega), nI_ix (by omega), hname k hkl, htn, lgc_eq0, Int64.toInt_inj, c27_inj (hnn _ (List.getElem_mem hkl)) hto]
          refine ⟨fun hne => hP162 _ ?_, fun he => hP158 (hP162 _ ?_)⟩
          · intro x21 e21; subst e21; rw [nI_s]
            refine ih2 (k + 1) x11 (by omega) ?_
            rcases hx with hx | hx
            · left; refine ⟨hx.1, fun q hq hqk => ?_⟩
              by_cases cq : q = k
              · subst cq; exact hne
              · exact hx.2 q hq (by omega)
            · right; exact hx
          · intro x21 e21; subst e21; rw [nI_s]
            refine ih2 (k + 1) (nI k) (by omega) (Or.inr ⟨?_, ?_⟩)
            · rw [← he]; exact List.getElem_mem hkl
            · rw [idx_at nodup hkl he]
      · subst hw0
        have hlo2 : o < (pW ps).length := by
          rcases hlo with h1 | h1 | h1
          · exact absurd h1.1 (by simp)
          · exact h1.2
          · exact absurd h1.1 (by simp)
        have hto : isNm (wN ((pW ps).getD o wyD)) := by rw [getD_at hlo2]; exact o6 _ (List.getElem_mem hlo2)
        have nodup : (pN ps).Nodup := o2
        have hnn : ∀ x ∈ pN ps, isNm x := by exact o4
        have hlen : (pN ps).length ≤ 24 := by omega
        have hname : ∀ (k : Nat) (hk : k < (pN ps).length), sJ s2 151 k = Int64.ofInt (c27 0 (pN ps)[k]) := by
          intro k hk
          rw [F2.2.1 _ _ (by unfold dR; omega)]
          exact hns.2 k hk
        have hcnt : (sI s2 139 27) = nI (pN ps).length := by
          rw [F2.1 _ _ (by unfold dR; omega)]; exact hns.1
        have htn : sJ s2 156 o = Int64.ofInt (c27 0 (wN ((pW ps).getD o wyD))) := by
          rw [F2.2.1 _ _ (by unfold dR; omega)]; rw [getD_at hlo2]; exact (hws.2 o hlo2).2.2.2.2
        suffices hI : ∀ (m k : Nat) (x11 : Int32), k + m = (pN ps).length → ((x11 = -1 ∧ ∀ (q : Nat) (hq : q < (pN ps).length), q < k → (pN ps)[q] ≠ wN ((pW ps).getD o wyD)) ∨ (wN ((pW ps).getD o wyD) ∈ pN ps ∧ x11 = nI ((pN ps).idxOf (wN ((pW ps).getD o wyD))))) → P97 x11 (nI k) from
          hI (pN ps).length 0 (-1) (by omega) (Or.inl ⟨rfl, fun q _ hq => by omega⟩)
        intro m
        induction m with
        | zero =>
          intro k x11 hk hx
          apply hP97
          intro P114 hP114
          refine ⟨fun hz => ?_, fun hz => absurd hz (by decide)⟩
          rw [hcnt]
          apply hP114
          rw [nI_leU (by omega) (by omega)]
          refine ⟨fun _ => ⟨fun hx0 => ?_, fun hx0 => ⟨nI_inU (by omega) (by omega), ?_⟩⟩, fun hh => absurd (by omega) hh⟩
          · have hin : wN ((pW ps).getD o wyD) ∈ pN ps ∧ x11 = nI ((pN ps).idxOf (wN ((pW ps).getD o wyD))) := by
              rcases hx with hx | hx
              · rw [hx.1] at hx0; exact absurd hx0 (by decide)
              · exact hx
            refine ⟨fun hh => ?_, fun hh => absurd hh (by decide)⟩
            refine ⟨by rw [vp_in_iffU, nI_toIntU (by omega)]; omega, ?_⟩
            intro s15 e15
            rw [nI_ix (by omega), hin.2] at e15
            refine go s15 (by subst e15; exact F2.wI (by unfold dR; omega)) ?_ ?_ ?_ ?_
            · unfold lkE; simp [hin.1]; try (simpa using hin.1)
            · refine ⟨fun h0 => absurd h0 (by simp), fun h0 => ?_⟩
              subst e15; rw [sI_w, if_pos ⟨rfl, rfl⟩]
            · intro l' hl'
              subst e15
              refine ⟨fun h0 => ?_, fun h0 => ?_⟩
              · rw [sI_w]; rw [if_neg (by omega)]; exact hl'.1 h0
              · rw [sI_w]; split
                · rename_i h3; rw [h3.2]
                · exact hl'.2 h0
            · intro g hg hgc
              subst e15; rw [sI_w, if_neg]
              rintro ⟨h1, h2⟩
              omega
          · rcases hx with hx | hx
            · refine bad 5 (by omega) (by omega) ?_
              have hnin : ¬ wN ((pW ps).getD o wyD) ∈ pN ps := by
                intro hin
                obtain ⟨q, hq, e⟩ := List.getElem_of_mem hin
                exact hx.2 q hq (by omega) e
              unfold lkE
              simp; exact hnin
            · exfalso; apply hx0
              rw [hx.2, nI_0U, nI_leU (by omega) (by have := List.idxOf_lt_length_of_mem hx.1; omega)]; omega
        | succ m ih2 =>
          intro k x11 hk hx
          have hkl : k < (pN ps).length := by omega
          apply hP97
          intro P114 hP114
          refine ⟨fun hz => ?_, fun hz => absurd hz (by decide)⟩
          rw [hcnt]
          apply hP114
          rw [nI_leU (by omega) (by omega)]
          refine ⟨fun hh => absurd hh (by omega), fun _ => ?_⟩
          intro P162 hP162 P158 hP158
          refine ⟨fun hh => ?_, fun hh => absurd hh (by decide)⟩
          refine ⟨nI_inU (by omega) (by omega), by rw [vp_in_iffU, nI_toIntU (by omega)]; omega, ?_⟩
          rw [nI_ix (by omega), nI_ix (by omega), hname k hkl, htn, lgc_eq0, Int64.toInt_inj, c27_inj (hnn _ (List.getElem_mem hkl)) hto]
          refine ⟨fun hne => hP162 _ ?_, fun he => hP158 (hP162 _ ?_)⟩
          · intro x21 e21; subst e21; rw [nI_s]
            refine ih2 (k + 1) x11 (by omega) ?_
            rcases hx with hx | hx
            · left; refine ⟨hx.1, fun q hq hqk => ?_⟩
              by_cases cq : q = k
              · subst cq; exact hne
              · exact hx.2 q hq (by omega)
            · right; exact hx
          · intro x21 e21; subst e21; rw [nI_s]
            refine ih2 (k + 1) (nI k) (by omega) (Or.inr ⟨?_, ?_⟩)
            · rw [← he]; exact List.getElem_mem hkl
            · rw [idx_at nodup hkl he]
    · -- an argument
      subst hw2
      have hlo2 : o < (pG ps).length ∧ gC ((pG ps).getD o gdD) = false ∧ -1 ≤ c ∧ c ≤ 15 := by
        rcases hlo with ⟨h1, _⟩ | ⟨h1, _⟩ | ⟨h1, h2, h3, h4, h5⟩
        · exact absurd h1 (by simp)
        · exact absurd h1 (by simp)
        · exact ⟨h2, h3, h4, h5⟩
      have skip : lkE ps (2, o, c, p) = none → P214 s2 := fun he => go s2 F2 he ⟨fun hh => absurd hh (by simp), fun hh => absurd hh (by simp)⟩ (fun _ h => h) (fun _ _ _ => rfl)
      have hc0 : Int32.ofInt c < 0 ↔ c < 0 := by
        rw [Int32.lt_iff_toInt_lt, Int32.toInt_ofInt_of_le (by omega) (by omega)]; exact Iff.rfl
      rw [hc0]
      refine ⟨fun hn => skip ?_, fun hn => ?_⟩
      · unfold lkE; simp; omega
      · obtain ⟨k, hk⟩ : ∃ k : Nat, c = k := ⟨c.toNat, by omega⟩
        subst hk
        rw [oI_nat, nI_mod (by omega) (by omega), nI_ix (by omega)]
        refine ⟨nI_inU (by omega) (by omega), ?_⟩
        have hgw : sI s2 159 o = nI (gW ((pG ps).getD o gdD)) := by
          rw [hW o hlo2.1 hlo2.2.1, (hgs.2 o hlo2.1).2.1]
          exact congrArg (fun x => nI (gW x)) (getD_at hlo2.1).symm
        have hgb : gW ((pG ps).getD o gdD) ≤ 2 := by
          rw [getD_at hlo2.1] at hlo2 ⊢; exact (o5 _ (List.getElem_mem hlo2.1)).1 hlo2.2.1
        rw [hgw, nI_ltU (by omega) (by omega)]
        refine ⟨fun hlt => skip ?_, fun hlt => ⟨nI_inU (by omega) (by omega), bad 6 (by omega) (by omega) ?_⟩⟩
        · unfold lkE; rw [if_pos rfl, if_neg]; dsimp only; omega
        · unfold lkE; rw [if_pos rfl, if_pos]; dsimp only; omega
end

section
variable {s : yS}
theorem poM.fr {s' : yS} {ps : PS} (h : poM s ps) (h1 : ∀ a i, ((a = 139 ∧ (i = 19 ∨ i = 25 ∨ i = 27 ∨ i = 34 ∨ i = 41)) ∨ (144 ≤ a ∧ a ≤ 163)) → sI s' a i = sI s a i) (h2 : ∀ a i, 144 ≤ a → a ≤ 163 → sJ s' a i = sJ s a i) : poM s' ps := by
  obtain ⟨q1, q2, q3, q4, q5, q6, q7⟩ := h
  refine ⟨q1.fr (h1 _ _ (by omega)) (fun i _ => h1 _ _ (by omega)) (fun i _ => h2 _ _ (by omega) (by omega)), q2.fr (h1 _ _ (by omega)) (fun a i _ _ _ => h1 _ _ (by omega)), q3.fr (h1 _ _ (by omega)) (fun i _ => h2 _ _ (by omega) (by omega)), q4.fr (h1 _ _ (by omega)) (fun a i _ _ _ => h1 _ _ (by omega)) (fun i _ => h2 _ _ (by omega) (by omega)), (h1 _ _ (by omega)).trans q5, fun g hg => ?_, fun l hl => ?_⟩
  · rw [h1 158 g (by omega), h1 161 g (by omega), h1 162 g (by omega), h1 163 g (by omega), h1 159 g (by omega)]; exact q6 g hg
  · have := q7 l hl
    unfold lkD at this ⊢
    rw [h1 159 _ (by omega), h1 157 _ (by omega)]; exact this
/-- a clause's guard in the reference -/
theorem poM.gd {ps : PS} (h : poM s ps) {g : Nat} (hg : g < (pG ps).length) {c : Int} (hl : lkG (pG ps) c g ∈ lkOf ps) : (sI s 159) g = nI (if gC (pG ps)[g] then ((pC ps).map Prod.fst).idxOf (gN' (pG ps)[g]) else gW (pG ps)[g]) := by
  have hD := h.2.2.2.2.2.2 _ hl
  have hgetD : (pG ps).getD g gdD = (pG ps)[g] := getD_at hg
  cases hc : gC (pG ps)[g]
  · exact (h.2.2.2.2.2.1 g hg).2.2.2.2 hc
  · have e : lkG (pG ps) c g = (0, g, c, gP (pG ps)[g]) := by
      unfold lkG; rw [show (false, 0, [], 0, 0, 0, false) = gdD from rfl, hgetD]; simp only [hc, if_true]
    rw [e] at hD
    have := hD.1 rfl
    dsimp only at this
    rw [hgetD] at this; exact this
theorem mem_lkW {ps : PS} {w g : Nat} (hw : w < (pW ps).length) (h1 : wF (pW ps)[w] ≤ g) (h2 : g < wF (pW ps)[w] + wM (pW ps)[w]) : lkG (pG ps) (wCl (pW ps)[w]) g ∈ lkOf ps := by
  unfold lkOf
  rw [List.mem_append]; right
  rw [List.mem_flatten]
  refine ⟨lkW (pG ps) w (pW ps)[w], List.mem_mapIdx.mpr ⟨w, hw, rfl⟩, ?_⟩
  unfold lkW; rw [List.mem_append]; left
  rw [List.mem_map]; exact ⟨g, List.mem_range'_1.mpr ⟨h1, h2⟩, rfl⟩
theorem mem_lkR {ps : PS} {r g : Nat} (hr : r < (pR ps).length) (h1 : rF (pR ps)[r] ≤ g) (h2 : g < rF (pR ps)[r] + rM (pR ps)[r]) : lkG (pG ps) (rC (pR ps)[r]) g ∈ lkOf ps := by
  unfold lkOf
  rw [List.mem_append]; left
  rw [List.mem_flatMap]
  refine ⟨_, List.getElem_mem hr, ?_⟩
  unfold lkR
  rw [List.mem_map]; exact ⟨g, List.mem_range'_1.mpr ⟨h1, h2⟩, rfl⟩
/-- all of what is looked up was found -/
def resOK (ps : PS) : Prop := ∀ l ∈ lkOf ps, lkE ps l = none
theorem pRes_ok {ps : PS} (h : pRes ps = none) : resOK ps := by
  unfold pRes at h; rw [List.findSome?_eq_none_iff] at h; exact h
theorem res_idx {ps : PS} (h : resOK ps) {g : Nat} (hg : g < (pG ps).length) {c : Int} (hl : lkG (pG ps) c g ∈ lkOf ps) (hc : gC (pG ps)[g] = true) : ((pC ps).map Prod.fst).idxOf (gN' (pG ps)[g]) < (pC ps).length := by
  have := h _ hl
  have hgetD : (pG ps).getD g gdD = (pG ps)[g] := getD_at hg
  have e : lkG (pG ps) c g = (0, g, c, gP (pG ps)[g]) := by
    unfold lkG; rw [show (false, 0, [], 0, 0, 0, false) = gdD from rfl, hgetD]; simp only [hc, if_true]
  rw [e] at this
  unfold lkE at this
  rw [if_neg (by simp), if_pos rfl, hgetD] at this
  split at this
  · rename_i hin; have := List.idxOf_lt_length_of_mem hin; rw [List.length_map] at this; exact this
  · simp at this
def dvF (s s' : yS) : Prop := (∀ a i, a ≠ 168 → a ≠ 169 → sI s' a i = sI s a i) ∧ (∀ a i, sJ s' a i = sJ s a i) ∧ ∀ a i, sR s' a i = sR s a i
theorem take_snoc {α : Type} {l : List α} {k : Nat} (h : k < l.length) : l.take (k + 1) = l.take k ++ [l[k]] := by
  rw [List.take_add_one, List.getElem?_eq_getElem h]; rfl
theorem k_divide {ps : PS} {c : Nat} {Q : yS → Prop} (hc : c < 16) (hp : poM s ps) (hwf : wfI ps) (hl : lenP ps) (hres : resOK ps)
    (H : ∀ s', dvF s s' → (∀ k, k < 9 → rwM s' k (dimL ps c k)) → Q s') : W_X12_divide s (nI c) Q := by
  obtain ⟨l1, l2, l3, l4⟩ := hl
  have hrng := wfI_rng hwf
  have hGl : (pG ps).length ≤ 864 := by have := (wfI_wfP hwf).1; omega
  unfold W_X12_divide
  intro P2 hP2
  -- behind the first loop
  have main : ∀ s2 : yS, dvF s s2 → (∀ k, k < 9 → rwM s2 k [dLo k]) → ∀ P45 : Int32 → yS → Prop, (∀ (x3 : Int32) (s4 : yS), ((((sI s4 139 34) ≤ x3 → Q s4)
    ∧ (¬ (sI s4 139 34) ≤ x3 → vp_in x3 192 ∧ 
     ∀ P60 : Int32 → yS → Prop, (∀ (x6 : Int32) (s7 : yS), (vp_in x3 192 ∧ 
      vp_in x3 192 ∧ 
      ((((sI s7 154 (ix x3)) + (sI s7 155 (ix x3))) ≤ x6 → ∀ x10 : Int32, x10 = (x3 + 1) → 
       P45 x10 s7)
      ∧ (¬ ((sI s7 154 (ix x3)) + (sI s7 155 (ix x3))) ≤ x6 → vp_in x3 192 ∧ 
       ∀ P101 : Int32 → Prop, (∀ (y12 : Int32), (∀ P258 : yS → Prop, (∀ (s13 : yS), (∀ x14 : Int32, x14 = (x6 + 1) → 
         P60 x14 s13) → P258 s13) → 
        ((y12 = 0 → P258 s7)
        ∧ (¬ y12 = 0 → vp_in x6 900 ∧ 
         ∀ P129 : Prop, ((vp_in x6 900 ∧ 
          ∀ P155 : Int32 → Prop, (∀ (y17 : Int32), (vp_in x6 900 ∧ 
           ∀ P173 : Int32 → Prop, (∀ (y19 : Int32), (vp_in x6 900 ∧ 
            ∀ P201 : Int32 → Prop, (∀ (y21 : Int32), (vp_in x6 900 ∧ 
             ∀ P230 : yS → Prop, (∀ (s23 : yS), (vp_in x6 900 ∧ 
              (((sI s23 161 (ix x6)) ≤ 0 → P258 s23)
              ∧ (¬ (sI s23 161 (ix x6)) ≤ 0 → vp_in x6 900 ∧ 
               W_X12_cut s23 y17 (((sI s23 162 (ix x6))).toInt64 + 1) y19 y21 
               (fun s26 => P258 s26)))) → P230 s23) → 
             (((nI 2) ≤ (sI s7 161 (ix x6)) → P230 s7)
             ∧ (¬ (nI 2) ≤ (sI s7 161 (ix x6)) → vp_in x6 900 ∧ 
              W_X12_cut s7 y17 ((sI s7 162 (ix x6))).toInt64 y19 y21 
              (fun s28 => P230 s28)))) → P201 y21) → 
            (((sI s7 158 (ix x6)) = 0 → P201 ((2147483647)))
            ∧ (¬ (sI s7 158 (ix x6)) = 0 → vp_in x6 900 ∧ 
             vp_in (sI s7 159 (ix x6)) 6 ∧ 
             P201 (sI s7 145 (ix (sI s7 159 (ix x6))))))) → P173 y19) → 
           (((sI s7 158 (ix x6)) = 0 → P173 ((-2147483648)))
           ∧ (¬ (sI s7 158 (ix x6)) = 0 → P173 0))) → P155 y17) → 
          (((sI s7 158 (ix x6)) = 0 → vp_in x6 900 ∧ 
           P155 (sI s7 159 (ix x6)))
          ∧ (¬ (sI s7 158 (ix x6)) = 0 → vp_in x6 900 ∧ 
           P155 ((nI 3) + (sI s7 159 (ix x6)))))) → P129) → 
         ((¬ (sI s7 158 (ix x6)) = 0 → P129)
         ∧ ((sI s7 158 (ix x6)) = 0 → vp_in x6 900 ∧ 
          (((nI c - nI c / (nI 4) * (nI 4)) ≤ (sI s7 159 (ix x6)) → P258 s7)
          ∧ (¬ (nI c - nI c / (nI 4) * (nI 4)) ≤ (sI s7 159 (ix x6)) → P129))))))) → P101 y12) → 
       (((sI s7 153 (ix x3)) < 0 → P101 1)
       ∧ (¬ (sI s7 153 (ix x3)) < 0 → vp_in x3 192 ∧ 
        ((¬ (sI s7 153 (ix x3)) = nI c → P101 0)
        ∧ ((sI s7 153 (ix x3)) = nI c → P101 1))))))) → P60 x6 s7) → 
     ∀ x35 : Int32, x35 = (sI s4 154 (ix x3)) → 
     P60 x35 s4))) → P45 x3 s4) → 
   P45 0 s2 := by
    intro s2 F2 r2 P45 hP45
    suffices hL : ∀ (m w : Nat) (s4 : yS), w + m = (pW ps).length → dvF s s4 → (∀ k, k < 9 → rwM s4 k (dimF ps k (((pW ps).take w).flatMap (cutW ps c)))) → P45 (nI w) s4 from
      hL (pW ps).length 0 s2 (by omega) F2 r2
    intro m
    induction m with
    | zero =>
      intro w s4 hw F4 r4
      have w4 : sI s4 139 34 = nI (pW ps).length := by rw [F4.1 _ _ (by omega) (by omega)]; exact hp.2.2.2.1.1
      apply hP45
      rw [w4, nI_leU (by omega) (by omega)]
      refine ⟨fun _ => H s4 F4 (fun k hk => ?_), fun hh => absurd (by omega) hh⟩
      have := r4 k hk
      rw [show w = (pW ps).length by omega, List.take_length] at this; exact this
    | succ m ih =>
      intro w s4 hw F4 r4
      have hwl : w < (pW ps).length := by omega
      have w4 : sI s4 139 34 = nI (pW ps).length := by rw [F4.1 _ _ (by omega) (by omega)]; exact hp.2.2.2.1.1
      have hwi := hwf.2.2.2.2.2.2.1 _ (List.getElem_mem hwl)
      have hwr := hrng.2 _ (List.getElem_mem hwl)
      have hws := hp.2.2.2.1.2 w hwl
      unfold ws1r at hws
      have hpre : (((pW ps).take w).flatMap (cutW ps c)).length ≤ 8 * w := by
        have : (((pW ps).take w).flatMap (cutW ps c)).length ≤ 8 * ((pW ps).take w).length := flat_len _ (fun x hx => cutW_len (hwf.2.2.2.2.2.2.1 x (List.mem_of_mem_take hx)).2.2.2.1)
        rw [List.length_take] at this; omega
      have hnext : ((pW ps).take (w + 1)).flatMap (cutW ps c) = ((pW ps).take w).flatMap (cutW ps c) ++ cutW ps c (pW ps)[w] := by
        rw [take_snoc hwl, List.flatMap_append]; simp
      generalize hPre : ((pW ps).take w).flatMap (cutW ps c) = Pre at *
      generalize hWY : (pW ps)[w] = wy at *
      apply hP45
      rw [w4, nI_leU (by omega) (by omega), nI_ix (n := w) (by omega)]
      refine ⟨fun hh => absurd hh (by omega), fun _ => ⟨nI_inU (by omega) (by omega), ?_⟩⟩
      intro P60 hP60 x35 e35
      rw [F4.1 _ _ (by omega) (by omega), hws.2.2.1] at e35
      subst e35
      -- the way's cuts so far
      have hmine : (wCl wy = -1 ∨ wCl wy = (c : Int)) → cutW ps c wy = (List.range' (wF wy) (wM wy)).flatMap (fun g => cutG ps c ((pG ps).getD g gdD)) := fun hh => by unfold cutW; rw [if_pos hh]
      have hnot : ¬ (wCl wy = -1 ∨ wCl wy = (c : Int)) → cutW ps c wy = [] := fun hh => by unfold cutW; rw [if_neg hh]
      suffices hG : ∀ (r i : Nat) (s7 : yS), i + r = wM wy → dvF s s7 → (∀ k, k < 9 → rwM s7 k (dimF ps k (Pre ++ (if wCl wy = -1 ∨ wCl wy = (c : Int) then (List.range' (wF wy) i).flatMap (fun g => cutG ps c ((pG ps).getD g gdD)) else [])))) → P60 (nI (wF wy + i)) s7 by
        refine hG (wM wy) 0 s4 (by omega) F4 (fun k hk => ?_)
        have := r4 k hk
        have e : (if wCl wy = -1 ∨ wCl wy = (c : Int) then (List.range' (wF wy) 0).flatMap (fun g => cutG ps c ((pG ps).getD g gdD)) else []) = [] := by split <;> rfl
        rw [e, List.append_nil]; exact this
      intro r
      induction r with
      | zero =>
        intro i s7 hi F7 r7
        have f154 : sI s7 154 w = nI (wF wy) := by rw [F7.1 _ _ (by omega) (by omega)]; exact hws.2.2.1
        have f155 : sI s7 155 w = nI (wM wy) := by rw [F7.1 _ _ (by omega) (by omega)]; exact hws.2.2.2.1
        apply hP60
        rw [f154, f155, nI_addU, nI_leU (by omega) (by omega)]
        refine ⟨nI_inU (by omega) (by omega), nI_inU (by omega) (by omega), fun _ => ?_, fun hh => absurd (by omega) hh⟩
        intro x10 e10; subst e10; rw [nI_s]
        refine ih (w + 1) s7 (by omega) F7 (fun k hk => ?_)
        rw [hnext]
        have := r7 k hk
        rw [show i = wM wy by omega] at this
        by_cases cm : wCl wy = -1 ∨ wCl wy = (c : Int)
        · rw [if_pos cm] at this; rw [hmine cm]; exact this
        · rw [if_neg cm] at this; rw [hnot cm]; exact this
      | succ r ihr =>
        intro i s7 hi F7 r7
        have hgl : wF wy + i < (pG ps).length := by omega
        have p7 := hp.fr (s' := s7) (fun a i ha => F7.1 _ _ (by omega) (by omega)) (fun a i _ _ => F7.2.1 _ _)
        have f154 : sI s7 154 w = nI (wF wy) := by rw [F7.1 _ _ (by omega) (by omega)]; exact hws.2.2.1
        have f155 : sI s7 155 w = nI (wM wy) := by rw [F7.1 _ _ (by omega) (by omega)]; exact hws.2.2.2.1
        have f153 : sI s7 153 w = Int32.ofInt (wCl wy) := by rw [F7.1 _ _ (by omega) (by omega)]; exact hws.2.1
        have hlm : lkG (pG ps) (wCl wy) (wF wy + i) ∈ lkOf ps := by
          have := mem_lkW (ps := ps) hwl (g := wF wy + i) (by rw [hWY]; omega) (by rw [hWY]; omega)
          rw [hWY] at this; exact this
        have hgd := p7.2.2.2.2.2.1 (wF wy + i) hgl
        have hgw := p7.gd hgl hlm
        have hgo := hwf.2.2.2.2.1 _ (List.getElem_mem hgl)
        have hgetD : (pG ps).getD (wF wy + i) gdD = (pG ps)[wF wy + i] := getD_at hgl
        have hres' := res_idx hres hgl hlm
        have hstep : (List.range' (wF wy) (i + 1)).flatMap (fun g => cutG ps c ((pG ps).getD g gdD)) = (List.range' (wF wy) i).flatMap (fun g => cutG ps c ((pG ps).getD g gdD)) ++ cutG ps c (pG ps)[wF wy + i] := by
          rw [List.range'_1_concat, List.flatMap_append]; simp only [List.flatMap_cons, List.flatMap_nil, List.append_nil]; rw [hgetD]
        have hsofar : ((List.range' (wF wy) i).flatMap (fun g => cutG ps c ((pG ps).getD g gdD))).length ≤ 2 * i := by
          have := flat_len2 (List.range' (wF wy) i) (fun g => cutG_len ps c ((pG ps).getD g gdD))
          rw [List.length_range'] at this; exact this
        generalize hd : (pG ps)[wF wy + i] = d at *
        have gh := hgo.2.2.1
        have gv1 := hgo.2.2.2.1
        have gv2 := hgo.2.2.2.2
        apply hP60
        rw [f154, f155, f153, nI_addU, nI_leU (by omega) (by omega)]
        refine ⟨nI_inU (by omega) (by omega), nI_inU (by omega) (by omega), fun hh => absurd hh (by omega), fun _ => ⟨nI_inU (by omega) (by omega), ?_⟩⟩
        intro P101 hP101
        have go : ∀ s13 : yS, dvF s s13 → (∀ k, k < 9 → rwM s13 k (dimF ps k (Pre ++ (if wCl wy = -1 ∨ wCl wy = (c : Int) then (List.range' (wF wy) (i + 1)).flatMap (fun g => cutG ps c ((pG ps).getD g gdD)) else [])))) → ∀ x14 : Int32, x14 = (nI (wF wy + i) + 1) → P60 x14 s13 := by
          intro s13 F13 r13 x14 e14
          subst e14; rw [nI_s]
          exact ihr (i + 1) s13 (by omega) F13 r13
        have no : ¬ (wCl wy = -1 ∨ wCl wy = (c : Int)) → P101 0 := by
          intro hno
          apply hP101
          intro P258 hP258
          refine ⟨fun _ => hP258 _ (go s7 F7 (fun k hk => ?_)), fun hz => absurd rfl hz⟩
          have := r7 k hk; rw [if_neg hno] at this ⊢; exact this
        have yes : (wCl wy = -1 ∨ wCl wy = (c : Int)) → P101 1 := by
          intro hyes
          simp only [if_pos hyes] at r7 go
          apply hP101
          intro P258 hP258
          refine ⟨fun hz => absurd hz (by decide), fun _ => ⟨nI_inU (by omega) (by omega), ?_⟩⟩
          intro P129 hP129
          rw [nI_ix (n := wF wy + i) (by omega), hgd.1, hgw] at hP129 ⊢
          -- not of this call
          have skip : (sbj ps d < 3 ∧ c % 4 ≤ sbj ps d) → P258 s7 := by
            intro hsk
            refine hP258 _ (go s7 F7 (fun k hk => ?_))
            rw [hstep]
            have e : cutG ps c d = [] := by unfold cutG; rw [if_pos hsk]
            rw [e, List.append_nil]; exact r7 k hk
          have body : ¬ (sbj ps d < 3 ∧ c % 4 ≤ sbj ps d) → P129 := by
            intro hns
            apply hP129
            have hcut : cutG ps c d = (if gH d = 2 then [] else [(sbj ps d, gV d)]) ++ (if gH d = 0 then [] else [(sbj ps d, gV d + 1)]) := by unfold cutG; rw [if_neg hns]
            have hsb : sbj ps d < 9 := by
              unfold sbj
              cases hcd : gC d
              · have := hgo.1 hcd; simp; omega
              · have := hres' hcd; simp; omega
            have hHi : dHi ps (sbj ps d) ≤ 2147483647 := by
              unfold dHi
              split
              · omega
              · rename_i h3
                rw [List.getD_eq_getElem?_getD]
                cases hq : ((pC ps).map Prod.snd)[sbj ps d - 3]? with
                | none => simp
                | some x =>
                  have hx := List.mem_of_getElem? hq
                  rw [List.mem_map] at hx
                  obtain ⟨y, hy1, hy2⟩ := hx
                  have := (hwf.2.2.1 y hy1).2.2
                  simp; omega
            have hLo : -2147483648 ≤ dLo (sbj ps d) := by unfold dLo; split <;> omega
            refine ⟨nI_inU (by omega) (by omega), ?_⟩
            intro P155 hP155
            have h155 : P155 (nI (sbj ps d)) := by
              apply hP155
              refine ⟨nI_inU (by omega) (by omega), ?_⟩
              intro P173 hP173
              have h173 : P173 (Int32.ofInt (dLo (sbj ps d))) := by
                apply hP173
                refine ⟨nI_inU (by omega) (by omega), ?_⟩
                intro P201 hP201
                have h201 : P201 (Int32.ofInt (dHi ps (sbj ps d))) := by
                  apply hP201
                  rw [hgd.2.1, hgd.2.2.1, nI_leU (by omega) (by omega), oI_J hgo.2.2.2.1 hgo.2.2.2.2]
                  refine ⟨nI_inU (by omega) (by omega), ?_⟩
                  intro P230 hP230
                  -- the second cut
                  have second : ∀ (s23 : yS) (L1 : List (Nat × Int)), L1 = (if gH d = 2 then [] else [(sbj ps d, gV d)]) → dvF s s23 → (∀ k, k < 9 → rwM s23 k (dimF ps k (Pre ++ ((List.range' (wF wy) i).flatMap (fun g => cutG ps c ((pG ps).getD g gdD)) ++ L1)))) → P230 s23 := by
                    intro s23 L1 hL1 F23 r23
                    have p23 := hp.fr (s' := s23) (fun a i ha => F23.1 _ _ (by omega) (by omega)) (fun a i _ _ => F23.2.1 _ _)
                    have hg23 := p23.2.2.2.2.2.1 (wF wy + i) hgl
                    rw [hd] at hg23
                    have hL1l : L1.length ≤ 1 := by rw [hL1]; split <;> simp
                    apply hP230
                    have h0 : nI (gH d) ≤ 0 ↔ gH d = 0 := by rw [nI_0U, nI_leU (by omega) (by omega)]; omega
                    rw [hg23.2.1, hg23.2.2.1, h0, oI_J hgo.2.2.2.1 hgo.2.2.2.2]
                    refine ⟨nI_inU (by omega) (by omega), fun hz => hP258 _ (go s23 F23 (fun k hk => ?_)), fun hz => ⟨nI_inU (by omega) (by omega), ?_⟩⟩
                    · rw [hstep, hcut, if_pos hz, List.append_nil, ← hL1]; exact r23 k hk
                    · have e1 : Int64.ofInt (gV d) + 1 = Int64.ofInt (gV d + 1) := by rw [Int64.ofInt_add]; rfl
                      rw [e1]
                      have hb := fold_len (ps := ps) (k := sbj ps d) (Pre ++ ((List.range' (wF wy) i).flatMap (fun g => cutG ps c ((pG ps).getD g gdD)) ++ L1)) [dLo (sbj ps d)]
                      rw [List.length_append, List.length_append] at hb
                      have hb1 : [dLo (sbj ps d)].length = 1 := rfl
                      refine k_cut hsb (r23 _ hsb) (dimF_ok ps _ _) (by show (List.foldl (stK ps (sbj ps d)) [dLo (sbj ps d)] _).length < 1999; omega) hLo hHi (by omega) (by omega) (fun s26 F26 r26 => hP258 _ (go s26 ?_ (fun k hk => ?_)))
                      · exact ⟨fun a i h1 h2 => (F26.1 _ _ (by omega) (by omega)).trans (F23.1 _ _ h1 h2), fun a i => (F26.2.1 a i).trans (F23.2.1 a i), fun a i => (F26.2.2 a i).trans (F23.2.2 a i)⟩
                      · rw [hstep, hcut, if_neg hz, ← hL1, ← List.append_assoc, ← List.append_assoc, dimF_app]
                        show rwM s26 k (stK ps k _ _)
                        unfold stK
                        by_cases ck : sbj ps d = k
                        · subst ck; rw [if_pos rfl, List.append_assoc]; exact r26
                        · rw [if_neg ck, List.append_assoc]
                          have := r23 k hk
                          refine ⟨(F26.1 _ _ (by omega) (by omega)).trans this.1, fun j hj => (F26.1 _ _ ?_ (by omega)).trans (this.2 j hj)⟩
                          have hbk := fold_len (ps := ps) (k := k) (Pre ++ ((List.range' (wF wy) i).flatMap (fun g => cutG ps c ((pG ps).getD g gdD)) ++ L1)) [dLo k]
                          rw [List.length_append, List.length_append] at hbk
                          have hbk1 : [dLo k].length = 1 := rfl
                          have hj' : j < (List.foldl (stK ps k) [dLo k] (Pre ++ ((List.range' (wF wy) i).flatMap (fun g => cutG ps c ((pG ps).getD g gdD)) ++ L1))).length := hj
                          omega
                  refine ⟨fun h2 => second s7 [] (by rw [if_pos (by have := hgo.2.2.1; omega)]) F7 (fun k hk => by rw [List.append_nil]; exact r7 k hk), fun h2 => ⟨nI_inU (by omega) (by omega), ?_⟩⟩
                  have hb := fold_len (ps := ps) (k := sbj ps d) (Pre ++ (List.range' (wF wy) i).flatMap (fun g => cutG ps c ((pG ps).getD g gdD))) [dLo (sbj ps d)]
                  rw [List.length_append] at hb
                  have hb1 : [dLo (sbj ps d)].length = 1 := rfl
                  refine k_cut hsb (r7 _ hsb) (dimF_ok ps _ _) (by show (List.foldl (stK ps (sbj ps d)) [dLo (sbj ps d)] _).length < 1999; omega) hLo hHi (by omega) (by omega) (fun s28 F28 r28 => second s28 [(sbj ps d, gV d)] (by rw [if_neg (by omega)]) ?_ (fun k hk => ?_))
                  · exact ⟨fun a i h1 h2 => (F28.1 _ _ (by omega) (by omega)).trans (F7.1 _ _ h1 h2), fun a i => (F28.2.1 a i).trans (F7.2.1 a i), fun a i => (F28.2.2 a i).trans (F7.2.2 a i)⟩
                  · rw [← List.append_assoc, dimF_app]
                    show rwM s28 k (stK ps k _ _)
                    unfold stK
                    by_cases ck : sbj ps d = k
                    · subst ck; rw [if_pos rfl]; exact r28
                    · rw [if_neg ck]
                      have := r7 k hk
                      refine ⟨(F28.1 _ _ (by omega) (by omega)).trans this.1, fun j hj => (F28.1 _ _ ?_ (by omega)).trans (this.2 j hj)⟩
                      have hbk := fold_len (ps := ps) (k := k) (Pre ++ (List.range' (wF wy) i).flatMap (fun g => cutG ps c ((pG ps).getD g gdD))) [dLo k]
                      rw [List.length_append] at hbk
                      have hbk1 : [dLo k].length = 1 := rfl
                      have hj' : j < (List.foldl (stK ps k) [dLo k] (Pre ++ (List.range' (wF wy) i).flatMap (fun g => cutG ps c ((pG ps).getD g gdD)))).length := hj
                      omega
                cases hcd : gC d
                · have hw2 := hgo.1 hcd
                  refine ⟨fun _ => ?_, fun hz => absurd rfl hz⟩
                  have e : dHi ps (sbj ps d) = 2147483647 := by unfold dHi sbj; rw [hcd]; simp; omega
                  rw [e] at h201; exact h201
                · have hix := hres' hcd
                  refine ⟨fun hz => absurd hz (by decide), fun _ => ⟨nI_inU (by omega) (by omega), ?_⟩⟩
                  simp only [if_true]
                  rw [nI_ix (n := ((pC ps).map Prod.fst).idxOf (gN' d)) (by omega)]
                  refine ⟨nI_inU (by omega) (by omega), ?_⟩
                  have hm := (p7.1.2 _ hix).2
                  rw [hm]
                  have e : dHi ps (sbj ps d) = ((pC ps)[((pC ps).map Prod.fst).idxOf (gN' d)].2 : Nat) := by
                    unfold dHi sbj; rw [hcd]; simp only [if_true]
                    rw [if_neg (by omega), Nat.add_sub_cancel_left, List.getD_eq_getElem?_getD, List.getElem?_map, List.getElem?_eq_getElem hix]; rfl
                  rw [e] at h201; exact h201
              cases hcd : gC d
              · have hw2 := hgo.1 hcd
                refine ⟨fun _ => ?_, fun hz => absurd rfl hz⟩
                have e : dLo (sbj ps d) = -2147483648 := by unfold dLo sbj; rw [hcd]; simp; omega
                rw [e] at h173; exact h173
              · refine ⟨fun hz => absurd hz (by decide), fun _ => ?_⟩
                have e : dLo (sbj ps d) = 0 := by unfold dLo sbj; rw [hcd]; simp
                rw [e] at h173; exact h173
            cases hcd : gC d
            · refine ⟨fun _ => ⟨nI_inU (by omega) (by omega), ?_⟩, fun hz => absurd rfl hz⟩
              have e : sbj ps d = gW d := by unfold sbj; rw [hcd]; rfl
              rw [e] at h155; exact h155
            · refine ⟨fun hz => absurd hz (by decide), fun _ => ⟨nI_inU (by omega) (by omega), ?_⟩⟩
              simp only [if_true]
              rw [nI_addU]
              have e : sbj ps d = 3 + ((pC ps).map Prod.fst).idxOf (gN' d) := by unfold sbj; rw [hcd]; rfl
              rw [e] at h155; exact h155
          rw [nI_mod (by omega) (by omega)]
          cases hcd : gC d
          · have hw2 := hgo.1 hcd
            have e : sbj ps d = gW d := by unfold sbj; rw [hcd]; rfl
            refine ⟨fun hz => absurd rfl hz, fun _ => ⟨nI_inU (by omega) (by omega), ?_⟩⟩
            simp only [Bool.false_eq_true, if_false]
            rw [nI_leU (by omega) (by omega)]
            exact ⟨fun hh => skip (by omega), fun hh => body (by omega)⟩
          · have e : sbj ps d = 3 + ((pC ps).map Prod.fst).idxOf (gN' d) := by unfold sbj; rw [hcd]; rfl
            exact ⟨fun _ => body (by omega), fun hz => absurd hz (by decide)⟩
        have hcw : Int32.ofInt (wCl wy) < 0 ↔ wCl wy < 0 := by
          rw [Int32.lt_iff_toInt_lt, oI_toInt (by omega) (by omega)]; exact Iff.rfl
        have hcw2 : Int32.ofInt (wCl wy) = nI c ↔ wCl wy = (c : Int) := by
          rw [← Int32.toInt_inj, oI_toInt (by omega) (by omega), nI_toIntU (by omega)]
        rw [hcw, hcw2]
        exact ⟨fun hh => yes (Or.inl (by omega)), fun hh => ⟨nI_inU (by omega) (by omega), fun h2 => no (fun h3 => h3.elim (fun h4 => by omega) h2), fun h2 => yes (Or.inr h2)⟩⟩
  -- the first loop
  suffices hF : ∀ (m d : Nat) (s2 : yS), d + m = 9 → dvF s s2 → (∀ k, k < d → rwM s2 k [dLo k]) → P2 (nI d) s2 from hF 9 0 s (by omega) ⟨fun _ _ _ _ => rfl, fun _ _ => rfl, fun _ _ => rfl⟩ (fun k hk => by omega)
  intro m
  induction m with
  | zero =>
    intro d s2 hd F2 r2
    apply hP2
    refine ⟨fun _ => main s2 F2 (fun k hk => r2 k (by omega)), fun hh => absurd ?_ hh⟩
    rw [nI_leU (by omega) (by omega)]; omega
  | succ m ih =>
    intro d s2 hd F2 r2
    apply hP2
    rw [nI_leU (by omega) (by omega), nI_ix (n := d) (by omega)]
    refine ⟨fun hh => absurd hh (by omega), fun _ => ⟨nI_inU (by omega) (by omega), ?_⟩⟩
    intro s37 e37 P36 hP36
    have go : ∀ y : Int32, y = Int32.ofInt (dLo d) → P36 y := by
      intro y hy
      apply hP36
      rw [nI_mul, nI_ix (n := 2000 * d) (by omega)]
      refine ⟨nI_inU (by omega) (by omega), ?_⟩
      intro s40 e40 x41 e41
      subst e41; rw [nI_s]
      refine ih (d + 1) s40 (by omega) ⟨fun a i h1 h2 => ?_, fun a i => ?_, fun a i => ?_⟩ (fun k hk => ?_)
      · subst e40; subst e37; rw [sI_w, if_neg (by omega), sI_w, if_neg (by omega)]; exact F2.1 a i h1 h2
      · subst e40; subst e37; exact F2.2.1 a i
      · subst e40; subst e37; exact F2.2.2 a i
      · by_cases ck : k = d
        · subst ck
          refine ⟨?_, fun i hi => ?_⟩
          · subst e40; subst e37; rw [sI_w, if_neg (by omega), sI_w, if_pos ⟨rfl, rfl⟩]; rfl
          · have hi0 : i = 0 := by simp at hi; exact hi
            subst hi0
            subst e40; rw [sI_w, if_pos ⟨rfl, rfl⟩, hy]; rfl
        · have := r2 k (by omega)
          refine ⟨?_, fun i hi => ?_⟩
          · subst e40; subst e37; rw [sI_w, if_neg (by omega), sI_w, if_neg (by omega)]; exact this.1
          · have hi0 : i = 0 := by simp at hi; exact hi
            subst hi0
            have h0 := this.2 0 hi
            subst e40; subst e37; rw [sI_w, if_neg (by omega), sI_w, if_neg (by omega)]; exact h0
    rw [nI_leU (by omega) (by omega)]
    refine ⟨fun hh => go _ ?_, fun hh => go _ ?_⟩
    · unfold dLo; rw [if_neg (by omega)]; rfl
    · unfold dLo; rw [if_pos (by omega)]; rfl
end

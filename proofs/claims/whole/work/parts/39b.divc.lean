def rowC (ps : PS) (c k : Nat) : List Int := if real ps c k then dimL ps c k else [0]
theorem fold_skip {ps : PS} {k : Nat} : ∀ (L : List (Nat × Int)) (l : List Int), (∀ x ∈ L, x.1 ≠ k) → L.foldl (stK ps k) l = l
  | [], l, _ => rfl
  | x :: L, l, h => by
    rw [List.foldl_cons]
    have : stK ps k l x = l := by unfold stK; rw [if_neg (h x (by simp))]
    rw [this]; exact fold_skip L l (fun y hy => h y (by simp [hy]))
theorem cutA_real {ps : PS} {c : Nat} (hwf : wfI ps) (hres : resOK ps) : ∀ x ∈ cutA ps c, real ps c x.1 = true := by
  intro x hx
  unfold cutA at hx
  rw [List.mem_flatMap] at hx
  obtain ⟨wy, hw, hx⟩ := hx
  obtain ⟨w, hwl, e⟩ := List.getElem_of_mem hw
  unfold cutW at hx
  split at hx
  · rw [List.mem_flatMap] at hx
    obtain ⟨g, hg, hx⟩ := hx
    rw [List.mem_range'_1] at hg
    have hgl : g < (pG ps).length := by have := (wfI_rng hwf).2 wy hw; omega
    have hlm := mem_lkW (ps := ps) hwl (g := g) (by rw [e]; omega) (by rw [e]; omega)
    have hri := res_idx hres hgl hlm
    have hgo := hwf.2.2.2.2.1 _ (List.getElem_mem hgl)
    rw [getD_at hgl] at hx
    unfold cutG at hx
    split at hx
    · simp at hx
    · rename_i hn
      have hx1 : x.1 = sbj ps (pG ps)[g] := by
        rw [List.mem_append] at hx
        rcases hx with hx | hx <;> (split at hx <;> simp at hx) <;> rw [hx]
      rw [hx1]
      unfold real
      by_cases h3 : sbj ps (pG ps)[g] < 3
      · rw [if_pos h3]; simp; omega
      · rw [if_neg h3]
        unfold sbj at h3 ⊢
        cases hc : gC (pG ps)[g]
        · rw [hc] at h3; have := hgo.1 hc; simp at h3; omega
        · have := hri hc; simp; omega
  · simp at hx
theorem dimL_not {ps : PS} {c k : Nat} (hwf : wfI ps) (hres : resOK ps) (h : real ps c k = false) : dimL ps c k = [dLo k] := by
  unfold dimL dimF
  apply fold_skip
  intro x hx hk
  have := cutA_real hwf hres x hx
  rw [hk, h] at this; exact absurd this (by decide)
theorem rowC_len {ps : PS} {c k : Nat} (hwf : wfI ps) (hres : resOK ps) : (rowC ps c k).length = ln ps c k := by
  unfold rowC ln
  cases h : real ps c k
  · rw [dimL_not hwf hres h]; rfl
  · rfl
section
variable {s : yS} {p : Nat}
theorem poC.fr {s' : yS} {ps : PS} (h : poC s p ps) (h1 : ∀ a i, (a = p ∧ (i = 0 ∨ i = 1 ∨ i = 4 ∨ i = 5 ∨ i = 6)) ∨ (p + 1 ≤ a ∧ a ≤ p + 9) → sI s' a i = sI s a i) : poC s' p ps := by
  obtain ⟨q1, q2, q3, q4, q5, q6, q7, q8, q9, q10, q11⟩ := h
  refine ⟨(h1 _ _ (by omega)).trans q1, (h1 _ _ (by omega)).trans q2, fun k hk => (h1 _ _ (by omega)).trans (q3 k hk), fun k hk => (h1 _ _ (by omega)).trans (q4 k hk), fun k hk => (h1 _ _ (by omega)).trans (q5 k hk), q6.fr (h1 _ _ (by omega)) (fun i _ => h1 _ _ (by omega)) (fun i _ => h1 _ _ (by omega)), q7.fr (fun i _ => h1 _ _ (by omega)), fun w hw hlt => (h1 _ _ (by omega)).trans (q8 w hw hlt), (h1 _ _ (by omega)).trans q9, fun g hg => ?_, fun c hc => ?_⟩
  · rw [h1 _ _ (by omega), h1 _ _ (by omega), h1 _ _ (by omega), h1 _ _ (by omega)]; exact q10 g hg
  · rw [h1 _ _ (by omega)]; exact q11 c hc
theorem poC_first {ps : PS} {Q : Int32 → Prop} (h : poC s p ps) (hl : lenP ps) (hwf : wfI ps) (H : Q (nI (pR ps).length)) : W_X3_firstWay s p Q := by
  have l1 := hl.1
  unfold W_X3_firstWay
  rw [h.1, nI_ix (n := (pC ps).length) (by omega)]
  refine ⟨nI_inU (by omega) (by omega), ?_⟩
  rw [h.2.2.2.1 _ (Nat.le_refl _), countP_all (fun r hr => by have := (hwf.2.2.2.2.2.1 r hr).1; simpa using this)]; exact H
theorem k_isFor {ps : PS} {q c : Nat} {Q : Int32 → Prop} (h : poC s p ps) (hq : q < (qL ps).length) (hqb : (qL ps).length ≤ 216) (hc : c < 16) (h1 : -1 ≤ (qL ps)[q].1) (h2 : (qL ps)[q].1 ≤ 15) (H : Q (if (qL ps)[q].1 = -1 ∨ (qL ps)[q].1 = (c : Int) then 1 else 0)) : W_X3_isFor s p (nI q) (nI c) Q := by
  unfold W_X3_isFor
  have hcl := (h.2.2.2.2.2.1.2.2 q hq).1
  have hb : ccl (qL ps)[q].1 ≤ 16 := by unfold ccl; split <;> omega
  have hce : ((qL ps)[q].1 = -1 ∧ ccl (qL ps)[q].1 = 16) ∨ ((qL ps)[q].1 ≠ -1 ∧ ccl (qL ps)[q].1 = (qL ps)[q].1.toNat) := by
    unfold ccl; by_cases hh : (qL ps)[q].1 = -1
    · left; exact ⟨hh, if_pos hh⟩
    · right; exact ⟨hh, if_neg hh⟩
  rw [nI_ix (n := q) (by omega), hcl, nI_inj (by omega) (by omega), nI_inj (by omega) (by omega)]
  refine ⟨nI_inU (by omega) (by omega), fun he => ?_, fun hne => ⟨nI_inU (by omega) (by omega), fun h16 => ?_, fun h16 => ?_⟩⟩
  · rw [if_pos] at H
    · exact H
    · omega
  · rw [if_neg] at H
    · exact H
    · omega
  · rw [if_pos] at H
    · exact H
    · omega

/-- only the row's own cells change -/
def drF (g b : Nat) (s s' : yS) : Prop := (∀ a i, ¬ (a = g + 1 ∧ b ≤ i) → sI s' a i = sI s a i) ∧ (∀ a i, sJ s' a i = sJ s a i) ∧ ∀ a i, sR s' a i = sR s a i
theorem c_divideRow {ps : PS} {c k b : Nat} {Q : Int32 → yS → Prop} (hp3 : p = 3 ∨ p = 20) (hc : c < 16) (hk : k < 9) (hb : b ≤ 650) (hp : poC s p ps) (hwf : wfI ps) (hl : lenP ps) (hres : resOK ps)
    (Hok : ln ps c k ≤ 512 → ∀ s', drF (p + 10) b s s' → arow (sI s' (p + 11)) b (rowC ps c k) → Q (nI (b + ln ps c k)) s')
    (Hov : 512 < ln ps c k → ∀ s', drF (p + 10) b s s' → Q (-1) s') : W_X1_divideRow s (p + 10) p (nI c) (nI k) (nI b) Q := by
  obtain ⟨l1, l2, l3, l4⟩ := hl
  have hl : lenP ps := ⟨l1, l2, l3, l4⟩
  have hrng := wfI_rng hwf
  have hGl : (pG ps).length ≤ 864 := by have := (wfI_wfP hwf).1; omega
  have hqlen := qL_len ps
  have hc0 : sI s p 0 = nI (pC ps).length := hp.1
  unfold W_X1_divideRow
  intro P10 hP10
  -- behind what the row is of
  have main : ∀ y1 : Int32, (y1 = 0 ∧ 3 ≤ k ∨ y1 = 1 ∧ k < 3) → P10 y1 := by
    intro y1 hy1
    apply hP10
    intro P47 hP47
    have m2 : ∀ y2 : Int32, (y2 = 0 ∧ real ps c k = false ∨ y2 = 1 ∧ real ps c k = true) → P47 y2 := by
      intro y2 hy2
      apply hP47
      intro P71 hP71
      have m3 : ∀ y3 : Int32, y3 = Int32.ofInt (if real ps c k then dLo k else 0) → P71 y3 := by
        intro y3 hy3
        apply hP71
        rw [nI_ix (n := b) (by omega)]
        refine ⟨nI_inU (by omega) (by omega), ?_⟩
        intro s5 e5 x6 e6
        rw [nI_s] at e6
        subst e6
        have F5 : drF (p + 10) b s s5 := by
          subst e5
          exact ⟨fun a i h1 => by rw [sI_w, if_neg (fun hh => h1 (by omega))], fun _ _ => rfl, fun _ _ => rfl⟩
        have v5 : sI s5 (p + 10 + 1) b = Int32.ofInt (if real ps c k then dLo k else 0) := by subst e5; rw [sI_w, if_pos ⟨rfl, rfl⟩, hy3]
        clear e5
        rcases hy2 with ⟨hy2, hrl⟩ | ⟨hy2, hrl⟩
        · subst hy2
          refine ⟨fun hz => absurd rfl hz, fun _ => ?_⟩
          have h1 : ln ps c k = 1 := by unfold ln; rw [dimL_not hwf hres hrl]; rfl
          have := Hok (by omega) s5 F5 (by
            unfold rowC; rw [hrl]
            intro i hi
            have : i = 0 := by simp at hi; exact hi
            subst this
            rw [hrl] at v5; exact v5)
          rw [h1] at this; exact this
        · subst hy2
          refine ⟨fun _ => ?_, fun hz => absurd hz (by decide)⟩
          rw [hrl] at v5
          simp only [if_true] at v5
          have hHi : -2147483648 ≤ dHi ps k ∧ dHi ps k ≤ 2147483647 := by
            unfold dHi
            split
            · omega
            · rw [List.getD_eq_getElem?_getD]
              cases hq : ((pC ps).map Prod.snd)[k - 3]? with
              | none => simp
              | some x =>
                have hx := List.mem_of_getElem? hq
                rw [List.mem_map] at hx
                obtain ⟨y, hy1, hy2⟩ := hx
                have := (hwf.2.2.1 y hy1).2.2
                simp; omega
          have hLo : -2147483648 ≤ dLo k := by unfold dLo; split <;> omega
          intro P104 hP104
          have m4 : P104 (Int32.ofInt (dHi ps k)) := by
            apply hP104
            have p5 : poC s5 p ps := hp.fr (fun a i ha => F5.1 _ _ (by omega))
            refine poC_first p5 hl hwf ?_
            intro P112 hP112
            -- the ways
            suffices hL : ∀ (m w : Nat) (s11 : yS), w + m = (pW ps).length → drF (p + 10) b s s11 → arow (sI s11 (p + 11)) b (dimF ps k (((pW ps).take w).flatMap (cutW ps c))) → (dimF ps k (((pW ps).take w).flatMap (cutW ps c))).length ≤ 512 → P112 (nI (b + (dimF ps k (((pW ps).take w).flatMap (cutW ps c))).length)) (nI ((pR ps).length + w)) s11 by
              refine hL (pW ps).length 0 s5 (by omega) F5 ?_ (by show 1 ≤ 512; omega)
              intro i hi
              have : i = 0 := by have hi : i < 1 := hi; omega
              subst this; exact v5
            intro m
            induction m with
            | zero =>
              intro w s11 hw F11 r11 hle
              have p11 : poC s11 p ps := hp.fr (fun a i ha => F11.1 _ _ (by omega))
              have c11 : sI s11 p 4 = nI ((pR ps).length + (pW ps).length) := by rw [p11.2.2.2.2.2.1.1, qL_len]
              have e : dimF ps k (((pW ps).take w).flatMap (cutW ps c)) = dimL ps c k := by rw [show w = (pW ps).length by omega, List.take_length]; rfl
              rw [e] at r11 hle ⊢
              apply hP112
              rw [c11, nI_leU (by omega) (by omega)]
              refine ⟨fun _ => Hok hle s11 F11 ?_, fun hh => absurd (by omega) hh⟩
              unfold rowC; rw [hrl]; exact r11
            | succ m ih =>
              intro w s11 hw F11 r11 hle
              have hwl : w < (pW ps).length := by omega
              have p11 : poC s11 p ps := hp.fr (fun a i ha => F11.1 _ _ (by omega))
              have c11 : sI s11 p 4 = nI ((pR ps).length + (pW ps).length) := by rw [p11.2.2.2.2.2.1.1, qL_len]
              have hwi := hwf.2.2.2.2.2.2.1 _ (List.getElem_mem hwl)
              have hwr := hrng.2 _ (List.getElem_mem hwl)
              have hql : (pR ps).length + w < (qL ps).length := by omega
              have hqw := qL_gW hql rfl hwl
              have hchn := hwf.2.2.2.2.2.2.2.1
              have hgf : ∀ s' : yS, poC s' p ps → sI s' (p + 5) ((pR ps).length + w) = nI (wF (pW ps)[w]) := by
                intro s' p'
                have cl := p'.2.2.2.2.2.1
                have e1 : (qL ps)[(pR ps).length + w].2.1 = wF (pW ps)[w] := by rw [hqw]
                by_cases h0 : (pR ps).length + w = 0
                · have := (chn_get _ _ _ hchn _ hql).1 h0
                  have e2 : sI s' (p + 5) ((pR ps).length + w) = 0 := by rw [h0]; exact cl.2.1
                  rw [e2, ← e1, this]; rfl
                · obtain ⟨t, ht⟩ : ∃ t, (pR ps).length + w = t + 1 := ⟨(pR ps).length + w - 1, by omega⟩
                  have h1 := (cl.2.2 t (by omega)).2
                  have h2 := (chn_get _ _ _ hchn t (by omega)).2.1 (by omega)
                  have e3 : (qL ps)[t + 1]'(by omega) = (qL ps)[(pR ps).length + w] := by simp only [ht]
                  rw [e3, e1] at h2
                  rw [ht, h1, h2]
              have hgt : ∀ s' : yS, poC s' p ps → sI s' (p + 5) ((pR ps).length + w + 1) = nI (wF (pW ps)[w] + wM (pW ps)[w]) := by
                intro s' p'
                have := (p'.2.2.2.2.2.1.2.2 _ hql).2
                rw [hqw] at this; exact this
              have hnext : ((pW ps).take (w + 1)).flatMap (cutW ps c) = ((pW ps).take w).flatMap (cutW ps c) ++ cutW ps c (pW ps)[w] := by
                rw [take_snoc hwl, List.flatMap_append]; simp
              have hrest : cutA ps c = ((pW ps).take (w + 1)).flatMap (cutW ps c) ++ ((pW ps).drop (w + 1)).flatMap (cutW ps c) := by
                unfold cutA; rw [← List.flatMap_append, List.take_append_drop]
              generalize hPre : ((pW ps).take w).flatMap (cutW ps c) = Pre at *
              generalize hWY : (pW ps)[w] = wy at *
              apply hP112
              rw [c11, nI_leU (by omega) (by omega), nI_ix (n := (pR ps).length + w) (by omega), hgf s11 p11]
              refine ⟨fun hh => absurd hh (by omega), fun _ => ⟨nI_inU (by omega) (by omega), ?_⟩⟩
              intro P130 hP130 x35 e35
              subst e35
              have hmine : (wCl wy = -1 ∨ wCl wy = (c : Int)) → cutW ps c wy = (List.range' (wF wy) (wM wy)).flatMap (fun g => cutG ps c ((pG ps).getD g gdD)) := fun hh => by unfold cutW; rw [if_pos hh]
              have hnot : ¬ (wCl wy = -1 ∨ wCl wy = (c : Int)) → cutW ps c wy = [] := fun hh => by unfold cutW; rw [if_neg hh]
              -- what is done of the way
              suffices hG : ∀ (r i : Nat) (s15 : yS) (L : List (Nat × Int)), i + r = wM wy → L = Pre ++ (if wCl wy = -1 ∨ wCl wy = (c : Int) then (List.range' (wF wy) i).flatMap (fun g => cutG ps c ((pG ps).getD g gdD)) else []) → drF (p + 10) b s s15 → arow (sI s15 (p + 11)) b (dimF ps k L) → (dimF ps k L).length ≤ 512 → P130 (nI (b + (dimF ps k L).length)) (nI (wF wy + i)) s15 by
                refine hG (wM wy) 0 s11 Pre (by omega) ?_ F11 r11 hle
                have e : (if wCl wy = -1 ∨ wCl wy = (c : Int) then (List.range' (wF wy) 0).flatMap (fun g => cutG ps c ((pG ps).getD g gdD)) else []) = [] := by split <;> rfl
                rw [e, List.append_nil]
              intro r
              induction r with
              | zero =>
                intro i s15 L hi hL F15 r15 hle15
                have p15 : poC s15 p ps := hp.fr (fun a i ha => F15.1 _ _ (by omega))
                apply hP130
                rw [nI_s, nI_ix (n := (pR ps).length + w + 1) (by omega), hgt s15 p15, nI_leU (by omega) (by omega)]
                refine ⟨nI_inU (by omega) (by omega), fun _ => ?_, fun hh => absurd (by omega) hh⟩
                intro x17 e17; subst e17
                have eL : L = ((pW ps).take (w + 1)).flatMap (cutW ps c) := by
                  rw [hnext, hL, show i = wM wy by omega]
                  by_cases cm : wCl wy = -1 ∨ wCl wy = (c : Int)
                  · rw [if_pos cm, hmine cm]
                  · rw [if_neg cm, hnot cm]
                rw [eL] at r15 hle15 ⊢
                exact ih (w + 1) s15 (by omega) F15 r15 hle15
              | succ r ihr =>
                intro i s15 L hi hL F15 r15 hle15
                have hgl : wF wy + i < (pG ps).length := by omega
                have p15 : poC s15 p ps := hp.fr (fun a i ha => F15.1 _ _ (by omega))
                have hgd := p15.2.2.2.2.2.2.2.2.2.1 (wF wy + i) hgl
                have hgo := hwf.2.2.2.2.1 _ (List.getElem_mem hgl)
                have hgetD : (pG ps).getD (wF wy + i) gdD = (pG ps)[wF wy + i] := getD_at hgl
                have hlm : lkG (pG ps) (wCl wy) (wF wy + i) ∈ lkOf ps := by
                  have := mem_lkW (ps := ps) hwl (g := wF wy + i) (by rw [hWY]; omega) (by rw [hWY]; omega)
                  rw [hWY] at this; exact this
                have hri := res_idx hres hgl hlm
                have hstep : (List.range' (wF wy) (i + 1)).flatMap (fun g => cutG ps c ((pG ps).getD g gdD)) = (List.range' (wF wy) i).flatMap (fun g => cutG ps c ((pG ps).getD g gdD)) ++ cutG ps c (pG ps)[wF wy + i] := by
                  rw [List.range'_1_concat, List.flatMap_append]; simp only [List.flatMap_cons, List.flatMap_nil, List.append_nil]; rw [hgetD]
                have hall : (wCl wy = -1 ∨ wCl wy = (c : Int)) → ∃ X, cutA ps c = (L ++ cutG ps c (pG ps)[wF wy + i]) ++ X := by
                  intro cm
                  rw [hrest, hnext, hmine cm, hL, if_pos cm]
                  rw [show wM wy = (i + 1) + r by omega, ← List.range'_append_1, List.flatMap_append, hstep]
                  exact ⟨(List.range' (wF wy + (i + 1)) r).flatMap (fun g => cutG ps c ((pG ps).getD g gdD)) ++ ((pW ps).drop (w + 1)).flatMap (cutW ps c), by simp [List.append_assoc]⟩
                generalize hd : (pG ps)[wF wy + i] = d at *
                have gh := hgo.2.2.1
                have gv1 := hgo.2.2.2.1
                have gv2 := hgo.2.2.2.2
                have hsb : sbj ps d < 9 := by
                  unfold sbj
                  cases hcd : gC d
                  · have := hgo.1 hcd; simp; omega
                  · have := hri hcd; simp; omega
                apply hP130
                rw [nI_s, nI_ix (n := (pR ps).length + w + 1) (by omega), hgt s15 p15, nI_leU (by omega) (by omega)]
                refine ⟨nI_inU (by omega) (by omega), fun hh => absurd hh (by omega), fun _ => ?_⟩
                refine k_isFor p15 hql (by omega) hc (by rw [hqw]; exact hwi.2.1) (by rw [hqw]; exact hwi.2.2.1) ?_
                rw [hqw]
                dsimp only
                intro P258 hP258
                -- on to the next guard
                have go : ∀ (s20 : yS) (L2 : List (Nat × Int)), L2 = Pre ++ (if wCl wy = -1 ∨ wCl wy = (c : Int) then (List.range' (wF wy) (i + 1)).flatMap (fun g => cutG ps c ((pG ps).getD g gdD)) else []) → drF (p + 10) b s s20 → arow (sI s20 (p + 11)) b (dimF ps k L2) → (dimF ps k L2).length ≤ 512 → P258 (nI (b + (dimF ps k L2).length)) s20 := by
                  intro s20 L2 hL2 F20 r20 hle20
                  apply hP258
                  intro x21 e21; subst e21; rw [nI_s]
                  exact ihr (i + 1) s20 L2 (by omega) hL2 F20 r20 hle20
                by_cases cm : wCl wy = -1 ∨ wCl wy = (c : Int)
                · rw [if_pos cm]
                  simp only [if_pos cm] at hL go
                  obtain ⟨X, hX⟩ := hall cm
                  refine ⟨fun hz => absurd hz (by decide), fun _ => ⟨nI_inU (by omega) (by omega), ?_⟩⟩
                  rw [nI_ix (n := wF wy + i) (by omega), hgd.1, hgd.2.1, hgd.2.2.1, nI_inj (by omega) (by omega), oI_J gv1 gv2]
                  refine ⟨fun hsk => ⟨nI_inU (by omega) (by omega), ?_⟩, fun hsk => ?_⟩
                  · -- of this dimension
                    have hcut : cutG ps c d = (if gH d = 2 then [] else [(k, gV d)]) ++ (if gH d = 0 then [] else [(k, gV d + 1)]) := by
                      unfold cutG; rw [hsk, if_neg]
                      intro hh
                      unfold real at hrl
                      rw [if_pos hh.1] at hrl; simp at hrl; omega
                    intro x24 e24
                    subst e24
                    refine ⟨nI_inU (by omega) (by omega), ?_⟩
                    intro P210 hP210
                    -- the second
                    have second : ∀ (s27 : yS) (L1 : List (Nat × Int)), L1 = (if gH d = 2 then [] else [(k, gV d)]) → drF (p + 10) b s s27 → arow (sI s27 (p + 11)) b (dimF ps k (L ++ L1)) → (dimF ps k (L ++ L1)).length ≤ 513 → P210 (nI (b + (dimF ps k (L ++ L1)).length)) s27 := by
                      intro s27 L1 hL1 F27 r27 hle27
                      have p27 : poC s27 p ps := hp.fr (fun a i ha => F27.1 _ _ (by omega))
                      have hg27 := p27.2.2.2.2.2.2.2.2.2.1 (wF wy + i) hgl
                      rw [hd] at hg27
                      apply hP210
                      rw [hg27.2.1]
                      refine ⟨nI_inU (by omega) (by omega), ?_⟩
                      intro P245 hP245
                      -- and behind it
                      have third : ∀ (s30 : yS) (L3 : List (Nat × Int)), L3 = L ++ cutG ps c d → drF (p + 10) b s s30 → arow (sI s30 (p + 11)) b (dimF ps k L3) → (dimF ps k L3).length ≤ 514 → P245 (nI (b + (dimF ps k L3).length)) s30 := by
                        intro s30 L3 hL3 F30 r30 hle30
                        apply hP245
                        rw [nI_sub (by omega), Nat.add_sub_cancel_left, nI_leU (by omega) (by omega)]
                        refine ⟨fun hh => go s30 L3 (by rw [hL3, hL, hstep, List.append_assoc]) F30 r30 hh, fun hh => Hov ?_ s30 F30⟩
                        have e : dimL ps c k = X.foldl (stK ps k) (dimF ps k L3) := by unfold dimL; rw [hX, dimF_app, hL3]
                        unfold ln; rw [e]
                        have := (fold_len (ps := ps) (k := k) X (dimF ps k L3)).1
                        omega
                      have h0 : nI (gH d) = 0 ↔ gH d = 0 := by rw [nI_0U, nI_inj (by omega) (by omega)]
                      rw [h0]
                      refine ⟨fun hz => ?_, fun hz => ?_⟩
                      · have e : L ++ L1 = L ++ cutG ps c d := by rw [hcut, if_pos hz, List.append_nil, hL1]
                        exact third s27 (L ++ L1) e F27 r27 (by omega)
                      · have e1 : Int64.ofInt (gV d) + 1 = Int64.ofInt (gV d + 1) := by rw [Int64.ofInt_add]; rfl
                        have e2 : dimF ps k (L ++ cutG ps c d) = stp (dLo k) (dHi ps k) (dimF ps k (L ++ L1)) (gV d + 1) := by
                          rw [hcut, if_neg hz, ← hL1, ← List.append_assoc, dimF_app (L := L ++ L1)]
                          show stK ps k _ _ = _
                          unfold stK; rw [if_pos rfl]
                        have hstl := stp_len (lo := dLo k) (hi := dHi ps k) (v := gV d + 1) (l := dimF ps k (L ++ L1))
                        rw [e1, lgc_gt0, oJ_toInt (by omega) (by omega), Int32.toInt_toInt64, oI_toInt hHi.1 hHi.2]
                        refine ⟨fun hgt => ?_, fun hle' => ?_⟩
                        · have e3 : dimF ps k (L ++ cutG ps c d) = dimF ps k (L ++ L1) := by rw [e2]; unfold stp; rw [if_pos (Or.inr hgt)]
                          have := third s27 (L ++ cutG ps c d) rfl F27 (by rw [e3]; exact r27) (by rw [e3]; omega)
                          rw [e3] at this; exact this
                        · refine c_insert (lo := dLo k) (hi := dHi ps k) r27 (dimF_ok ps k _) (by omega) hLo hHi.2 (by omega) (by omega) (fun s32 F32 r32 => ?_)
                          rw [← e2] at r32 ⊢
                          refine third s32 (L ++ cutG ps c d) rfl ⟨fun a i h1 => (F32.1 _ _ (fun hh => h1 (by omega))).trans (F27.1 _ _ h1), fun a i => (F32.2.1 a i).trans (F27.2.1 a i), fun a i => (F32.2.2 a i).trans (F27.2.2 a i)⟩ r32 (by rw [e2]; omega)
                    rw [nI_inj (by omega) (by omega)]
                    refine ⟨fun h2 => ?_, fun h2 => ?_⟩
                    · have := second s15 [] (by rw [if_pos h2]) F15 (by rw [List.append_nil]; exact r15) (by rw [List.append_nil]; omega)
                      rw [List.append_nil] at this; exact this
                    · have e2 : dimF ps k (L ++ [(k, gV d)]) = stp (dLo k) (dHi ps k) (dimF ps k L) (gV d) := by
                        rw [dimF_app]
                        show stK ps k _ _ = _
                        unfold stK; rw [if_pos rfl]
                      have hstl := stp_len (lo := dLo k) (hi := dHi ps k) (v := gV d) (l := dimF ps k L)
                      rw [lgc_gt0, oJ_toInt (by omega) (by omega), Int32.toInt_toInt64, oI_toInt hHi.1 hHi.2]
                      refine ⟨fun hgt => ?_, fun hle' => ?_⟩
                      · have e3 : dimF ps k (L ++ [(k, gV d)]) = dimF ps k L := by rw [e2]; unfold stp; rw [if_pos (Or.inr hgt)]
                        have := second s15 [(k, gV d)] (by rw [if_neg h2]) F15 (by rw [e3]; exact r15) (by rw [e3]; omega)
                        rw [e3] at this; exact this
                      · refine c_insert (lo := dLo k) (hi := dHi ps k) r15 (dimF_ok ps k _) (by omega) hLo hHi.2 (by omega) (by omega) (fun s34 F34 r34 => ?_)
                        rw [← e2] at r34 ⊢
                        refine second s34 [(k, gV d)] (by rw [if_neg h2]) ⟨fun a i h1 => (F34.1 _ _ (fun hh => h1 (by omega))).trans (F15.1 _ _ h1), fun a i => (F34.2.1 a i).trans (F15.2.1 a i), fun a i => (F34.2.2 a i).trans (F15.2.2 a i)⟩ r34 (by rw [e2]; omega)
                  · -- of another
                    have hskip : dimF ps k (L ++ cutG ps c d) = dimF ps k L := by
                      rw [dimF_app]
                      apply fold_skip
                      intro x hx
                      unfold cutG at hx
                      split at hx
                      · simp at hx
                      · rw [List.mem_append] at hx
                        rcases hx with hx | hx <;> (split at hx <;> simp at hx) <;> (rw [hx]; exact hsk)
                    have := go s15 (L ++ cutG ps c d) (by rw [hL, hstep, List.append_assoc]) F15 (by rw [hskip]; exact r15) (by rw [hskip]; exact hle15)
                    rw [hskip] at this; exact this
                · rw [if_neg cm]
                  refine ⟨fun _ => ?_, fun hz => absurd rfl hz⟩
                  refine go s15 L ?_ F15 r15 hle15
                  rw [hL, if_neg cm, if_neg cm]
          rcases hy1 with ⟨hy1, hk3⟩ | ⟨hy1, hk3⟩
          · subst hy1
            have hkc : k - 3 < (pC ps).length := by unfold real at hrl; rw [if_neg (by omega)] at hrl; simpa using hrl
            refine ⟨fun _ => ?_, fun hz => absurd rfl hz⟩
            rw [nI_sub (by omega), nI_ix (n := k - 3) (by omega)]
            refine ⟨nI_inU (by omega) (by omega), ?_⟩
            have e : sI s5 (p + 1) (k - 3) = Int32.ofInt (dHi ps k) := by
              rw [F5.1 _ _ (by omega), hp.2.2.1 (k - 3) hkc]
              unfold dHi; rw [if_neg (by omega), List.getD_eq_getElem?_getD, List.getElem?_map, List.getElem?_eq_getElem hkc]; rfl
            rw [e]; exact m4
          · subst hy1
            refine ⟨fun hz => absurd hz (by decide), fun _ => ?_⟩
            have e : dHi ps k = 2147483647 := by unfold dHi; rw [if_pos hk3]
            rw [e] at m4; exact m4
      have hlo3 : dLo k = if k < 3 then -2147483648 else 0 := rfl
      rcases hy1 with ⟨hy1, hk3⟩ | ⟨hy1, hk3⟩
      · subst hy1
        refine ⟨fun _ => m3 _ ?_, fun hz => absurd rfl hz⟩
        have e0 : dLo k = 0 := by rw [hlo3, if_neg (by omega)]
        rw [e0]; split <;> rfl
      · subst hy1
        refine ⟨fun hz => absurd hz (by decide), fun _ => ?_⟩
        rcases hy2 with ⟨hy2, hrl⟩ | ⟨hy2, hrl⟩
        · subst hy2
          exact ⟨fun _ => m3 _ (by rw [hrl]; rfl), fun hz => absurd rfl hz⟩
        · subst hy2
          exact ⟨fun hz => absurd hz (by decide), fun _ => m3 _ (by rw [hrl, hlo3, if_pos hk3]; rfl)⟩
    rcases hy1 with ⟨hy1, hk3⟩ | ⟨hy1, hk3⟩
    · subst hy1
      refine ⟨fun _ => ?_, fun hz => absurd rfl hz⟩
      rw [hc0, nI_sub (by omega), nI_leU (by omega) (by omega)]
      refine ⟨fun h => m2 0 (Or.inl ⟨rfl, ?_⟩), fun h => m2 1 (Or.inr ⟨rfl, ?_⟩)⟩
      · unfold real; rw [if_neg (by omega)]; simp; omega
      · unfold real; rw [if_neg (by omega)]; simp; omega
    · subst hy1
      refine ⟨fun hz => absurd hz (by decide), fun _ => ?_⟩
      rw [nI_mod (by omega) (by omega), nI_leU (by omega) (by omega)]
      refine ⟨fun h => m2 0 (Or.inl ⟨rfl, ?_⟩), fun h => m2 1 (Or.inr ⟨rfl, ?_⟩)⟩
      · unfold real; rw [if_pos hk3]; simp; omega
      · unfold real; rw [if_pos hk3]; simp; omega
  rw [nI_leU (by omega) (by omega)]
  exact ⟨fun h => main 0 (Or.inl ⟨rfl, h⟩), fun h => main 1 (Or.inr ⟨rfl, by omega⟩)⟩
end

section
variable {s : yS} {p : Nat}
/-- values in a cell -/
def vCl (s : yS) (a : Nat) (v : Nat → Int32) : Prop := ∀ i, i < 9 → sI s a i = v i
theorem c_isTrue {ps : PS} {g : Nat} {x : Int32} {Q : Int32 → Prop} (hp : poC s p ps) (hwf : wfI ps) (hg : g < (pG ps).length) (hGl : (pG ps).length ≤ 864) (H : Q (bI (gCmp (pG ps)[g] x))) : W_X3_isTrue s p (nI g) x Q := by
  have hgd := hp.2.2.2.2.2.2.2.2.2.1 g hg
  have hgo := hwf.2.2.2.2.1 _ (List.getElem_mem hg)
  generalize (pG ps)[g] = d at *
  have gh := hgo.2.2.1
  unfold W_X3_isTrue
  rw [nI_ix (n := g) (by omega), hgd.2.1, hgd.2.2.1]
  refine ⟨nI_inU (by omega) (by omega), ?_⟩
  intro x2 e2
  refine ⟨nI_inU (by omega) (by omega), ?_⟩
  intro x4 e4
  subst e2; subst e4
  have z0 : nI (gH d) = 0 ↔ gH d = 0 := by rw [nI_0U, nI_inj (by omega) (by omega)]
  have z1 : nI (gH d) = 1 ↔ gH d = 1 := by rw [nI_1U, nI_inj (by omega) (by omega)]
  rw [z0, z1]
  refine ⟨fun h0 => ⟨fun h1 => ⟨fun hle => ?_, fun hle => ?_⟩, fun h1 => ⟨fun hne => ?_, fun he => ?_⟩⟩, fun h0 => ⟨fun hle => ?_, fun hle => ?_⟩⟩
  · have : gCmp d x = false := by
      unfold gCmp; rw [if_neg h0, if_neg h1]; simp
      exact Int32.not_lt.mp (fun hh => absurd hle (Int32.not_le.mpr hh))
    rw [this] at H; exact H
  · have : gCmp d x = true := by unfold gCmp; rw [if_neg h0, if_neg h1]; simp; exact Int32.not_le.mp hle
    rw [this] at H; exact H
  · have : gCmp d x = false := by unfold gCmp; rw [if_neg h0, if_pos h1]; simp; exact hne
    rw [this] at H; exact H
  · have : gCmp d x = true := by unfold gCmp; rw [if_neg h0, if_pos h1]; simp; exact he
    rw [this] at H; exact H
  · have : gCmp d x = false := by unfold gCmp; rw [if_pos h0]; simp; exact hle
    rw [this] at H; exact H
  · have : gCmp d x = true := by unfold gCmp; rw [if_pos h0]; simp; exact Int32.not_le.mp hle
    rw [this] at H; exact H
/-- where clause q's guards begin -/
theorem poC_from {ps : PS} (h : poC s p ps) (hwf : wfI ps) {q : Nat} (hq : q < (qL ps).length) : sI s (p + 5) q = nI (qL ps)[q].2.1 := by
  have cl := h.2.2.2.2.2.1
  have hchn := hwf.2.2.2.2.2.2.2.1
  cases q with
  | zero => rw [cl.2.1, (chn_get _ _ _ hchn 0 hq).1 rfl]; rfl
  | succ t =>
    have h1 := (cl.2.2 t (by omega)).2
    have h2 := (chn_get _ _ _ hchn t (by omega)).2.1 hq
    rw [h1, h2]
theorem c_holds {ps : PS} {q c a : Nat} {v : Nat → Int32} {Q : Int32 → Prop} (hp : poC s p ps) (hwf : wfI ps) (hl : lenP ps) (hres : resOK ps) (hc : c < 16) (hv : vCl s a v) (hq : q < (qL ps).length)
    (hlk : ∀ g, (qL ps)[q].2.1 ≤ g → g < (qL ps)[q].2.1 + (qL ps)[q].2.2 → ∃ cl, lkG (pG ps) cl g ∈ lkOf ps)
    (H : Q (bI (decide ((qL ps)[q].1 = -1 ∨ (qL ps)[q].1 = (c : Int)) && qHold ps c v (qL ps)[q].2.1 (qL ps)[q].2.2))) : W_X3_holds s p (nI q) (nI c) a 9 Q := by
  have hGl : (pG ps).length ≤ 864 := by have := (wfI_wfP hwf).1; have := hl.1; have := hl.2.1; have := hl.2.2.1; have := hl.2.2.2; omega
  have hql : (qL ps).length ≤ 216 := by rw [qL_len]; have := hl.1; have := hl.2.1; have := hl.2.2.1; have := hl.2.2.2; omega
  have hfrom := poC_from hp hwf hq
  have hto := (hp.2.2.2.2.2.1.2.2 q hq).2
  have hcr := (chn_le _ _ _ hwf.2.2.2.2.2.2.2.1).2 _ (List.getElem_mem hq)
  have hcb : -1 ≤ (qL ps)[q].1 ∧ (qL ps)[q].1 ≤ 15 := by
    by_cases cq : q < (pR ps).length
    · rw [qL_gR hq cq]; have := hwf.2.2.2.2.2.1 _ (List.getElem_mem cq); exact ⟨this.2.1, this.2.2.1⟩
    · have hwl : q - (pR ps).length < (pW ps).length := by rw [qL_len] at hq; omega
      rw [qL_gW hq (by omega) hwl]; have := hwf.2.2.2.2.2.2.1 _ (List.getElem_mem hwl); exact ⟨this.2.1, this.2.2.1⟩
  unfold W_X3_holds
  refine k_isFor hp hq hql hc hcb.1 hcb.2 ?_
  by_cases hf : (qL ps)[q].1 = -1 ∨ (qL ps)[q].1 = (c : Int)
  · rw [if_pos hf]
    rw [decide_eq_true hf, Bool.true_and] at H
    refine ⟨fun _ => ⟨nI_inU (by omega) (by omega), ?_⟩, fun hz => absurd hz (by decide)⟩
    intro P19 hP19 x13 e13
    rw [nI_ix (n := q) (by omega), hfrom] at e13
    subst e13
    generalize hA : (qL ps)[q].2.1 = A at *
    generalize hM : (qL ps)[q].2.2 = M at *
    suffices hL : ∀ (r i : Nat), i + r = M → qHold ps c v A i = true → P19 (nI (A + i)) from hL M 0 (by omega) rfl
    intro r
    induction r with
    | zero =>
      intro i hi hh
      apply hP19
      rw [nI_s, nI_ix (n := q + 1) (by omega), hto, nI_leU (by omega) (by omega)]
      refine ⟨nI_inU (by omega) (by omega), fun _ => ?_, fun hh => absurd (by omega) hh⟩
      rw [show i = M by omega] at hh; rw [hh] at H; exact H
    | succ r ih =>
      intro i hi hh
      have hgl : A + i < (pG ps).length := by omega
      have hgd := hp.2.2.2.2.2.2.2.2.2.1 (A + i) hgl
      obtain ⟨cl, hlm⟩ := hlk (A + i) (by omega) (by omega)
      have hri := res_idx hres hgl hlm
      have hgo := hwf.2.2.2.2.1 _ (List.getElem_mem hgl)
      have hst : qHold ps c v A (i + 1) = (qHold ps c v A i && gHold ps c v (pG ps)[A + i]) := by
        unfold qHold; rw [List.range'_1_concat, List.all_append]; simp only [List.all_cons, List.all_nil, Bool.and_true]; rw [getD_at hgl]
      have hfalse : gHold ps c v (pG ps)[A + i] = false → qHold ps c v A M = false := by
        intro hf2
        unfold qHold
        rw [List.all_eq_false]
        refine ⟨A + i, List.mem_range'_1.mpr ⟨by omega, by omega⟩, ?_⟩
        rw [getD_at hgl, hf2]; simp
      have htr := fun x Q H => c_isTrue (x := x) (Q := Q) hp hwf hgl hGl H
      have hsb : sbj ps (pG ps)[A + i] < 9 := by
        unfold sbj
        cases hcd : gC (pG ps)[A + i]
        · have := hgo.1 hcd; simp; omega
        · have := hri hcd; have := hl.1; simp; omega
      generalize (pG ps)[A + i] = d at *
      apply hP19
      rw [nI_s, nI_ix (n := q + 1) (by omega), hto, nI_leU (by omega) (by omega)]
      refine ⟨nI_inU (by omega) (by omega), fun hh => absurd hh (by omega), fun _ => ⟨nI_inU (by omega) (by omega), ?_⟩⟩
      intro x6 e6
      rw [nI_ix (n := A + i) (by omega), hgd.1] at e6
      subst e6
      rw [nI_ix (n := A + i) (by omega), hgd.2.2.2]
      intro P60 hP60
      have main : ∀ y7 : Int32, y7 = bI (decide (3 ≤ sbj ps d ∨ sbj ps d < c % 4)) → P60 y7 := by
        intro y7 hy7
        apply hP60
        intro P85 hP85
        have fin : ∀ b : Bool, b = (decide (3 ≤ sbj ps d ∨ sbj ps d < c % 4) && gCmp d (v (sbj ps d))) → P85 (bI b) := by
          intro b hb
          apply hP85
          refine ⟨nI_inU (by omega) (by omega), fun he => ?_, fun he => ?_⟩
          · have : gHold ps c v d = true := by
              unfold gHold; rw [← hb]; cases b <;> cases hgo2 : gO d <;> rw [hgo2] at he <;> first | rfl | exact absurd rfl he
            intro x10 e10; subst e10; rw [nI_s]
            exact ih (i + 1) (by omega) (by rw [hst, hh, this]; rfl)
          · have : gHold ps c v d = false := by
              unfold gHold; rw [← hb]; cases b <;> cases hgo2 : gO d <;> rw [hgo2] at he <;> first | rfl | exact absurd he (by decide)
            rw [hfalse this] at H; exact H
        subst hy7
        cases hth : decide (3 ≤ sbj ps d ∨ sbj ps d < c % 4)
        · exact ⟨fun _ => fin false (by rw [hth]; rfl), fun hz => absurd rfl hz⟩
        · refine ⟨fun hz => absurd hz (by decide), fun _ => ⟨nI_inU hsb (by omega), ?_⟩⟩
          rw [nI_ix (n := sbj ps d) (by omega), hv _ hsb]
          refine htr _ _ ?_
          cases hcm : gCmp d (v (sbj ps d))
          · exact ⟨fun _ => fin false (by rw [hth, hcm]; rfl), fun hz => absurd rfl hz⟩
          · exact ⟨fun hz => absurd hz (by decide), fun _ => fin true (by rw [hth, hcm]; rfl)⟩
      rw [nI_leU (by omega) (by omega), nI_mod (by omega) (by omega), nI_leU (by omega) (by omega)]
      refine ⟨fun h3 => main 1 ?_, fun h3 => ⟨fun h4 => main 0 ?_, fun h4 => main 1 ?_⟩⟩
      · rw [decide_eq_true (by omega)]; rfl
      · rw [decide_eq_false (by omega)]; rfl
      · rw [decide_eq_true (by omega)]; rfl
  · rw [if_neg hf]
    rw [decide_eq_false hf, Bool.false_and] at H
    exact ⟨fun hz => absurd rfl hz, fun _ => H⟩
/-! ===== letters as the other one finds them ===== -/
def ltF (s : yS) (p : Nat) (ps : PS) : Prop := offs ps 16 ≤ 512 ∧ ltC s p ps 16 0 ∧ sI s (p + 12) 144 = nI (rbC ps 16)
theorem ltF.row {ps : PS} (h : ltF s p ps) {c k : Nat} (hc : c < 16) (hk : k ≤ 9) : sI s (p + 12) (c * 9 + k) = nI (rbC ps c + sumL ps c k) := by
  by_cases h9 : k < 9
  · exact (h.2.1.2 c k h9 (Or.inl hc)).1
  · have : k = 9 := by omega
    subst this
    by_cases hc15 : c = 15
    · subst hc15; exact h.2.2
    · have := (h.2.1.2 (c + 1) 0 (by omega) (Or.inl (by omega))).1
      rw [show c * 9 + 9 = (c + 1) * 9 + 0 by omega, this]; rfl
theorem rb_bnd (ps : PS) {c k : Nat} (hc : c < 16) (hk : k ≤ 9) (h : offs ps 16 ≤ 512) : rbC ps c + sumL ps c k ≤ 640 := by
  have h1 := rbC_le ps 16
  have h2 : rbC ps (c + 1) ≤ rbC ps 16 := rbC_mono ps (by omega)
  have h3 : sumL ps c k ≤ sumL ps c 9 := sumL_mono ps c hk
  have h4 : rbC ps (c + 1) = rbC ps c + sumL ps c 9 := rfl
  omega
theorem c_callAt {ps : PS} {c i : Nat} {Q : Int32 → Prop} (h : ltF s p ps) (hc : c < 16) (hi : i < nLet ps c) (H : Q (nI c)) : W_X1_callAt s (p + 10) (nI (offs ps c + i)) Q := by
  have hb : offs ps c + i < 512 := by
    have h1 : offs ps (c + 1) ≤ offs ps 16 := offs_mono ps (by omega)
    have h2 : offs ps (c + 1) = offs ps c + nLet ps c := rfl
    have := h.1; omega
  unfold W_X1_callAt
  intro P2 hP2
  suffices hL : ∀ (m k : Nat), k + m = c → P2 (nI k) from hL c 0 (by omega)
  intro m
  induction m with
  | zero =>
    intro k hk
    have hkc : k = c := by omega
    subst hkc
    apply hP2
    rw [nI_leU (by omega) (by omega)]
    refine ⟨fun _ => H, fun h15 => ?_⟩
    have hf := h.2.1.1 (k + 1) (by omega)
    have ho : offs ps (k + 1) ≤ 512 := Nat.le_trans (offs_mono ps (by omega)) h.1
    rw [nI_s, nI_ix (n := k + 1) (by omega), hf, nI_ltU (by omega) (by omega)]
    refine ⟨nI_inU (by omega) (by omega), fun _ => H, fun hh => absurd ?_ hh⟩
    show _ < offs ps k + nLet ps k; omega
  | succ m ih =>
    intro k hk
    apply hP2
    have hf := h.2.1.1 (k + 1) (by omega)
    have ho : offs ps (k + 1) ≤ offs ps c := offs_mono ps (by omega)
    rw [nI_leU (by omega) (by omega), nI_s, nI_ix (n := k + 1) (by omega), hf, nI_ltU (by omega) (by omega)]
    refine ⟨fun hh => absurd hh (by omega), fun _ => ⟨nI_inU (by omega) (by omega), fun hh => absurd hh (by omega), fun _ => ?_⟩⟩
    intro x3 e3; subst e3
    exact ih (k + 1) (by omega)
theorem c_rowSize {ps : PS} {c k : Nat} {Q : Int32 → Prop} (h : ltF s p ps) (hc : c < 16) (hk : k < 9) (H : Q (nI (ln ps c k))) : W_X1_rowSize s (p + 10) (nI c) (nI k) Q := by
  have h1 := h.row hc (k := k) (by omega)
  have h2 := h.row hc (k := k + 1) (by omega)
  have b1 := rb_bnd ps hc (k := k + 1) (by omega) h.1
  have hs : sumL ps c (k + 1) = sumL ps c k + ln ps c k := rfl
  have hp := ln_pos ps c k
  unfold W_X1_rowSize
  intro x1 e1
  rw [nI_mul, nI_addU] at e1
  subst e1
  have e2 : sI s (p + 10 + 2) (c * 9 + k + 1) = nI (rbC ps c + sumL ps c (k + 1)) := h2
  have e3 : sI s (p + 10 + 2) (c * 9 + k) = nI (rbC ps c + sumL ps c k) := h1
  rw [nI_s, nI_ix (n := c * 9 + k + 1) (by omega), nI_ix (n := c * 9 + k) (by omega), e2, e3, nI_sub (by omega), show rbC ps c + sumL ps c (k + 1) - (rbC ps c + sumL ps c k) = ln ps c k by omega]
  refine ⟨nI_inU (by omega) (by omega), nI_inU (by omega) (by omega), ?_⟩
  by_cases c1 : (1 : Int32) < nI (ln ps c k)
  · rw [if_pos c1]; exact H
  · rw [if_neg c1]
    rw [nI_1U, nI_ltU (by omega) (by omega)] at c1
    rw [show ln ps c k = 1 by omega] at H; exact H
theorem c_leastAt {ps : PS} {c i d : Nat} {Q : Int32 → Prop} (h : ltF s p ps) (hwf : wfI ps) (hres : resOK ps) (hc : c < 16) (hi : i < nLet ps c) (hd : d < 9) (H : Q (Int32.ofInt (low ps c i d))) : W_X1_leastAt s (p + 10) (nI (offs ps c + i)) (nI d) Q := by
  have hb : offs ps c + i < 512 := by
    have h1 : offs ps (c + 1) ≤ offs ps 16 := offs_mono ps (by omega)
    have h2 : offs ps (c + 1) = offs ps c + nLet ps c := rfl
    have := h.1; omega
  have hf := h.2.1.1 c (by omega)
  unfold W_X1_leastAt
  refine c_callAt h hc hi ⟨nI_inU (by omega) (by omega), ?_⟩
  intro x3 e3
  rw [nI_ix (n := c) (by omega), hf, nI_sub (by omega), Nat.add_sub_cancel_left] at e3
  subst e3
  intro P20 hP20
  have hlnb : ∀ k, k < 9 → ln ps c k ≤ 640 := by
    intro k hk
    have := rb_bnd ps hc (k := k + 1) (by omega) h.1
    have hs : sumL ps c (k + 1) = sumL ps c k + ln ps c k := rfl
    omega
  suffices hL : ∀ (r t : Nat), t + r = 8 - d → P20 (nI (rst ps c i t)) (nI (8 - t)) from hL (8 - d) 0 (by omega)
  intro r
  induction r with
  | zero =>
    intro t ht
    have htd : 8 - t = d := by omega
    have hrs := rst_le ps c i t
    have hln := hlnb d hd
    have hlp := ln_pos ps c d
    have hrow := h.row hc (k := d) (by omega)
    have hbn := rb_bnd ps hc (k := d) (by omega) h.1
    have hbn2 := rb_bnd ps hc (k := d + 1) (by omega) h.1
    have hs2 : sumL ps c (d + 1) = sumL ps c d + ln ps c d := rfl
    have hr2 := (h.2.1.2 c d hd (Or.inl hc)).2
    have hmod : rst ps c i t % ln ps c d < ln ps c d := Nat.mod_lt _ (by omega)
    apply hP20
    rw [htd]
    refine ⟨fun _ => ?_, fun hh => absurd (by rw [nI_leU (by omega) (by omega)]; omega) hh⟩
    have e3 : sI s (p + 10 + 2) (c * 9 + d) = nI (rbC ps c + sumL ps c d) := hrow
    rw [nI_mul, nI_addU, nI_ix (n := c * 9 + d) (by omega), e3]
    refine ⟨nI_inU (by omega) (by omega), c_rowSize h hc hd ⟨by rw [nI_0U, nI_inj (by omega) (by omega)]; omega, ?_⟩⟩
    rw [nI_mod (by omega) (by omega), nI_addU, nI_ix (n := rbC ps c + sumL ps c d + rst ps c i t % ln ps c d) (by omega)]
    refine ⟨nI_inU (by omega) (by omega), ?_⟩
    have hlr := rowC_len (c := c) (k := d) hwf hres
    have := hr2 (rst ps c i t % ln ps c d) (by omega)
    have e4 : sI s (p + 10 + 1) (rbC ps c + sumL ps c d + rst ps c i t % ln ps c d) = Int32.ofInt ((rowC ps c d)[rst ps c i t % ln ps c d]'(by omega)) := this
    rw [e4]
    have e5 : (rowC ps c d)[rst ps c i t % ln ps c d]'(by omega) = low ps c i d := by
      unfold low
      rw [show 8 - d = t by omega]
      rw [← getD_at (d := 0) (by omega : rst ps c i t % ln ps c d < (rowC ps c d).length)]
      unfold rowC
      cases hr : real ps c d
      · have : ln ps c d = 1 := by unfold ln; rw [dimL_not hwf hres hr]; rfl
        rw [this, Nat.mod_one]; rfl
      · rfl
    rw [e5]; exact H
  | succ r ih =>
    intro t ht
    have hrs := rst_le ps c i t
    have hln := hlnb (8 - t) (by omega)
    have hlp := ln_pos ps c (8 - t)
    apply hP20
    rw [nI_leU (by omega) (by omega)]
    refine ⟨fun hh => absurd hh (by omega), fun _ => c_rowSize h hc (by omega) ⟨by rw [nI_0U, nI_inj (by omega) (by omega)]; omega, ?_⟩⟩
    intro x12 e12 x13 e13
    rw [nI_div (by omega) (by omega)] at e12
    have ex : x13 = nI (8 - (t + 1)) := by
      subst e13
      have h2 : (-1 : Int32).toInt = -1 := rfl
      rw [← Int32.toInt_inj, i_add, nI_toIntU (n := 8 - t) (by omega), nI_toIntU (n := 8 - (t + 1)) (by omega), h2]; omega
    subst ex; subst e12
    exact ih (t + 1) (by omega)
end

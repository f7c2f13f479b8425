section
variable {nd : Nat → Bool} {x : Fn} {i j n : Nat} {l l' : List Fn} {f : Nat}
def blN (nd : Nat → Bool) (n j : Nat) : Option Nat := (List.range n).find? (fun i => decide (mv nd i ≤ j ∧ j < mv nd (i + 1)))
theorem bl_uq {i k : Nat} (h1 : mv nd i ≤ j) (h2 : j < mv nd (i + 1)) (k1 : mv nd k ≤ j) (k2 : j < mv nd (k + 1)) : i = k := by
  have a : mv nd i < mv nd (k + 1) := by omega
  have b : mv nd k < mv nd (i + 1) := by omega
  rw [mv_iff] at a b
  omega
theorem bl_is (hi : i < n) (h1 : mv nd i ≤ j) (h2 : j < mv nd (i + 1)) : blN nd n j = some i := by
  unfold blN
  cases hf : (List.range n).find? (fun i => decide (mv nd i ≤ j ∧ j < mv nd (i + 1))) with
  | none =>
    rw [List.find?_eq_none] at hf
    exact absurd (decide_eq_true ⟨h1, h2⟩) (hf i (List.mem_range.mpr hi))
  | some k =>
    have := List.find?_some hf
    rw [decide_eq_true_eq] at this
    rw [bl_uq this.1 this.2 h1 h2]
theorem bl_of (h : blN nd n j = some i) : i < n ∧ mv nd i ≤ j ∧ j < mv nd (i + 1) := by
  unfold blN at h
  have h1 := List.find?_some h
  have h2 := List.mem_of_find?_eq_some h
  rw [decide_eq_true_eq] at h1
  exact ⟨List.mem_range.mp h2, h1⟩
def tyN (nd : Nat → Bool) (n : Nat) (M : Nat → Option (List Bool)) : Nat → Option (List Bool) := fun j => (blN nd n j).bind M
theorem tyN_is {M : Nat → Option (List Bool)} (hi : i < n) (h1 : mv nd i ≤ j) (h2 : j < mv nd (i + 1)) : tyN nd n M j = M i := by
  unfold tyN; rw [bl_is hi h1 h2]; rfl
theorem tyN_mv {M : Nat → Option (List Bool)} (hi : i < n) : tyN nd n M (mv nd i) = M i := tyN_is hi (Nat.le_refl _) (mv_lt (by omega))
theorem chg_jmp {o v v' : Nat} {st : List Bool} (h : 17 < o ∧ o < 21) : chg l x o v st = chg l x o v' st := by
  unfold chg
  rw [if_neg (by omega), if_neg (by omega), if_neg (by omega), if_neg (by omega), if_neg (by omega), if_neg (by omega), if_neg (by omega)]
  rw [if_neg (show ¬ o = 0 by omega), if_neg (show ¬ o = 1 by omega), if_neg (show ¬ o = 2 by omega), if_neg (show ¬ o = 3 by omega), if_neg (show ¬ o = 4 by omega), if_neg (show ¬ o = 5 by omega), if_neg (show ¬ o < 18 by omega)]
  by_cases c : o = 18
  · rw [if_pos c, if_pos c]
  · rw [if_neg c, if_neg c, if_pos (by omega), if_pos (by omega)]
theorem chg_26 {v : Nat} {st r : List Bool} (h : chg l x 26 v st = some r) : chg l' x 29 v st = some st := by
  unfold chg at h ⊢
  simp only [show ¬ (26 = 0) by decide, show ¬ (26 = 1) by decide, show ¬ (26 = 2) by decide, show ¬ (26 = 3) by decide, show ¬ (26 = 4) by decide, show ¬ (26 = 5) by decide, show ¬ (26 < 18) by decide, show ¬ (26 = 18) by decide, show ¬ (26 = 19 ∨ 26 = 20 ∨ 26 = 28) by decide, show ¬ (26 = 21) by decide, show ¬ (26 = 22) by decide, show ¬ (26 = 23) by decide, show ¬ (26 = 24) by decide, show ¬ (26 = 25) by decide, if_false, if_true] at h
  simp only [show ¬ (29 = 0) by decide, show ¬ (29 = 1) by decide, show ¬ (29 = 2) by decide, show ¬ (29 = 3) by decide, show ¬ (29 = 4) by decide, show ¬ (29 = 5) by decide, show ¬ (29 < 18) by decide, show ¬ (29 = 18) by decide, show ¬ (29 = 19 ∨ 29 = 20 ∨ 29 = 28) by decide, show ¬ (29 = 21) by decide, show ¬ (29 = 22) by decide, show ¬ (29 = 23) by decide, show ¬ (29 = 24) by decide, show ¬ (29 = 25) by decide, show ¬ (29 = 26) by decide, show ¬ (29 = 27) by decide, if_false]
  cases hq : tkI (v % 4) st with
  | none => rw [hq] at h; exact no_so h
  | some u => rfl
/-- the forged function's stacks -/
theorem frF_ty {M : Nat → Option (List Bool)} (hl : hdE l l') (hfo : fOK f l.length x) (ht : tyF l x M) (hnd : ∀ i, i < (fC x).length → nd i = true → opA x i = 26) : tyF l' (frF nd x) (tyN nd (fC x).length M) := by
  have hlen := frF_len (nd := nd) (x := x)
  have h400 := hfo.2.2.2.2.2.2.2.2.1
  refine ⟨?_, fun j st hj => ?_, fun j st hj => ?_⟩
  · have := tyN_mv (nd := nd) (M := M) (i := 0) (n := (fC x).length) hfo.2.2.2.2.2.2.2.1
    rw [mv_0] at this; rw [this]; exact ht.1
  · unfold tyN at hj
    rw [Option.bind_eq_some_iff] at hj
    obtain ⟨i, h1, h2⟩ := hj
    obtain ⟨b1, b2, b3⟩ := bl_of h1
    refine ⟨(ht.2.1 i st h2).1, ?_⟩
    rw [hlen]
    have := mv_le (nd := nd) (i := i + 1) (j := (fC x).length) (by omega)
    omega
  · unfold tyN at hj
    rw [Option.bind_eq_some_iff] at hj
    obtain ⟨i, h1, h2⟩ := hj
    obtain ⟨hi, b2, b3⟩ := bl_of h1
    obtain ⟨_, r, c1, c2, c3, c4, c5⟩ := ht.2.2 i st h2
    rw [← opA_at hi] at c1 c4 c5
    rw [← orA_at hi] at c1 c4
    have hio := hfo.2.2.2.2.2.2.2.2.2.2.1 _ (List.getElem_mem hi)
    have hho := hfo.2.2.2.2.2.2.2.2.2.2.2
    have hjl : j < (fC (frF nd x)).length := by
      rw [hlen]
      have := mv_le (nd := nd) (i := i + 1) (j := (fC x).length) (by omega)
      omega
    have hs := mv_s (nd := nd) (i := i)
    -- handlers
    have hh : ∀ h ∈ fH (frF nd x), hF h ≤ j → j < hT h → tyN nd (fC x).length M (hG h) = some [false] := by
      intro h hm h3 h4
      have hm : h ∈ (fH x).map (hnN nd) := hm
      obtain ⟨k, hk, ek⟩ := List.mem_map.mp hm
      subst ek
      have hkk := hho k hk
      have h3 : mv nd (hF k) ≤ j := h3
      have h4 : j < mv nd (hT k) := h4
      show tyN nd (fC x).length M (mv nd (hG k)) = _
      rw [tyN_mv hkk.2.2.1]
      have e1 : hF k < i + 1 := mv_iff.mp (show mv nd (hF k) < mv nd (i + 1) by omega)
      have e2 : i < hT k := mv_iff.mp (show mv nd i < mv nd (hT k) by omega)
      exact c3 k hk (by omega) e2
    by_cases cg : nd i = true ∧ j = mv nd i
    · -- the guard
      obtain ⟨cn, cj⟩ := cg
      subst cj
      obtain ⟨g1, g2⟩ := frF_gd (nd := nd) hi cn
      have h26 := hnd i hi cn
      rw [h26] at c1
      rw [cn, if_pos rfl] at hs
      refine ⟨hjl, st, ?_, (ht.2.1 i st h2).1, hh, fun hc => ?_, fun _ => ?_⟩
      · rw [← opA_at hjl, ← orA_at hjl, g1, g2]
        have := chg_26 (l' := l) (x := x) c1
        rw [← chg_cong hl (show fB x = fB (frF nd x) from rfl) (show fR x = fR (frF nd x) from rfl)]
        exact this
      · rw [← opA_at hjl, g1] at hc; omega
      · refine ⟨?_, ?_⟩
        · rw [hlen]
          have := mv_le (nd := nd) (i := i + 1) (j := (fC x).length) (by omega)
          omega
        · rw [tyN_is hi (by omega) (by omega)]; exact h2
    · -- the instruction itself
      have cj : j = mv nd (i + 1) - 1 := by
        cases hn : nd i with
        | false => rw [hn, if_neg (by decide)] at hs; omega
        | true =>
          rw [hn, if_pos rfl] at hs
          have : j ≠ mv nd i := fun hh => cg ⟨hn, hh⟩
          omega
      subst cj
      obtain ⟨g1, g2⟩ := frF_op (nd := nd) hi
      have hpos : 0 < mv nd (i + 1) := by have := mv_ge (nd := nd) (i := i + 1); omega
      refine ⟨hjl, r, ?_, c2, hh, fun hc => ?_, fun hc => ?_⟩
      · rw [← opA_at hjl, ← orA_at hjl, g1, g2, ← chg_cong hl (show fB x = fB (frF nd x) from rfl) (show fR x = fR (frF nd x) from rfl)]
        by_cases c : 17 < opA x i ∧ opA x i < 21
        · rw [if_pos c, chg_jmp c (v' := ix (orA x i))]; exact c1
        · rw [if_neg c]; exact c1
      · rw [← opA_at hjl, g1] at hc
        rw [← orA_at hjl, g2, if_pos hc]
        have hc' := hc
        rw [opA_at hi] at hc'
        obtain ⟨k, hk, ek⟩ := hio.2.2.1 hc'
        have e : orA x i = nI k := by rw [orA_at hi]; exact ek
        have := c4 hc
        rw [e, nI_ix (n := k) (by omega)] at this ⊢
        have hb : mv nd k ≤ 800 := by have := gcn_le (nd := nd) (i := k); unfold mv; omega
        rw [nI_ix (by omega), tyN_mv hk]; exact this
      · rw [← opA_at hjl, g1] at hc
        obtain ⟨d1, d2⟩ := c5 hc
        rw [show mv nd (i + 1) - 1 + 1 = mv nd (i + 1) by omega, hlen]
        exact ⟨mv_lt d1, by rw [tyN_mv d1]; exact d2⟩
/-- a forged function is as functions can be -/
theorem frF_ok (hfo : fOK f n x) (h4 : mv nd (fC x).length ≤ 400) (hnd : ∀ i, i < (fC x).length → nd i = true → opA x i = 26) : fOK f n (frF nd x) := by
  obtain ⟨a1, a2, a3, a4, a5, a6, a7, a8, a9, a10, a11, a12⟩ := hfo
  have hlen := frF_len (nd := nd) (x := x)
  refine ⟨a1, a2, a3, a4, a5, a6, a7, ?_, by rw [hlen]; exact h4, ?_, fun y hy => ?_, fun h hh => ?_⟩
  · rw [hlen]; have := mv_ge (nd := nd) (i := (fC x).length); omega
  · show ((fH x).map (hnN nd)).length ≤ 6
    rw [List.length_map]; exact a10
  · obtain ⟨j, hj, ej⟩ := List.getElem_of_mem hy
    have hj' := hj
    rw [hlen] at hj'
    obtain ⟨i, hi, b2, b3⟩ := mv_pos hj'
    have hio := a11 _ (List.getElem_mem hi)
    have hs := mv_s (nd := nd) (i := i)
    rw [hlen]
    have hy2 : (fC (frF nd x)).getD j (0, 0) = y := by rw [getD_at hj]; exact ej
    by_cases cg : nd i = true ∧ j = mv nd i
    · obtain ⟨cn, cj⟩ := cg
      subst cj
      rw [(frF_ins (nd := nd) hi).2 cn] at hy2
      subst hy2
      have h26 := hnd i hi cn
      rw [opA_at hi] at h26
      exact ⟨Nat.le_refl _, fun h => by omega, fun h => by omega, fun h => by omega, fun _ => hio.2.2.2.2 (Or.inl h26)⟩
    · have cj : j = mv nd (i + 1) - 1 := by
        cases hn : nd i with
        | false => rw [hn, if_neg (by decide)] at hs; omega
        | true =>
          rw [hn, if_pos rfl] at hs
          have : j ≠ mv nd i := fun hh => cg ⟨hn, hh⟩
          omega
      subst cj
      rw [(frF_ins (nd := nd) hi).1] at hy2
      subst hy2
      unfold insN
      by_cases c : 17 < (fC x)[i].1 ∧ (fC x)[i].1 < 21
      · rw [if_pos c]
        obtain ⟨k, hk, ek⟩ := hio.2.2.1 c
        refine ⟨hio.1, fun h => by omega, fun _ => ⟨mv nd k, mv_lt hk, by rw [ek, nI_ix (by omega)]⟩, fun h => by omega, fun h => by omega⟩
      · rw [if_neg c]
        exact ⟨hio.1, hio.2.1, fun h => absurd h c, hio.2.2.2.1, hio.2.2.2.2⟩
  · have hh : h ∈ (fH x).map (hnN nd) := hh
    obtain ⟨k, hk, ek⟩ := List.mem_map.mp hh
    subst ek
    have hkk := a12 k hk
    rw [hlen]
    exact ⟨mv_lt hkk.1, mv_le hkk.2.1, mv_lt hkk.2.2.1, hkk.2.2.2⟩
theorem fcd_sum : ∀ (c : List (Nat × Int32)) (i : Nat), sumI (fcd nd c i) + 2 * gcn nd i = sumI c + 2 * gcn nd (i + c.length)
  | [], i => rfl
  | y :: c, i => by
    have ih := fcd_sum c (i + 1)
    have h29 : wdI 29 = 2 := by decide
    have e : i + (c.length + 1) = i + 1 + c.length := by omega
    rw [fcd, List.length_cons, e, sumI_cons]
    rw [gcn] at ih
    unfold blk
    cases hn : nd i with
    | false =>
      rw [hn, if_neg (by decide)] at ih
      rw [if_neg (by decide), List.singleton_append, sumI_cons]
      show wdI y.1 + _ + _ = _
      omega
    | true =>
      rw [hn, if_pos rfl] at ih
      rw [if_pos rfl, List.cons_append, List.singleton_append, sumI_cons, sumI_cons]
      show wdI 29 + (wdI y.1 + _) + _ = _
      omega
theorem frF_sum : lenF (frF nd x) = lenF x + 2 * gcn nd (fC x).length := by
  have h := fcd_sum (nd := nd) (fC x) 0
  rw [Nat.zero_add] at h
  have h : sumI (fC (frF nd x)) + 2 * 0 = sumI (fC x) + 2 * gcn nd (fC x).length := h
  rw [lenF_eq, lenF_eq]
  have h2 : sumH (fH (frF nd x)) = sumH (fH x) := by
    show sumH ((fH x).map (hnN nd)) = _
    unfold sumH
    rw [List.map_map]
    rfl
  omega
end
/-! programs -/
section
variable {nd : Nat → Nat → Bool} {l : List Fn} {k f : Nat}
theorem mix_len : (mixP nd k l).length = l.length := List.length_mapIdx
theorem mix_at (h : f < l.length) : (mixP nd k l)[f]'(by rw [mix_len]; exact h) = if f < k then frF (nd f) l[f] else l[f] := by
  unfold mixP; rw [List.getElem_mapIdx]
theorem mix_getD : (mixP nd k l).getD f dFn = if f < l.length then (if f < k then frF (nd f) (l.getD f dFn) else l.getD f dFn) else dFn := by
  by_cases h : f < l.length
  · rw [if_pos h, getD_at (by rw [mix_len]; exact h), mix_at h, getD_at h]
  · rw [if_neg h, List.getD_eq_getElem?_getD, List.getElem?_eq_none (by rw [mix_len]; omega)]; rfl
theorem mix_hd : hdE l (mixP nd k l) := by
  refine ⟨mix_len.symm, fun f => ?_⟩
  rw [mix_getD]
  by_cases h : f < l.length
  · rw [if_pos h]
    split
    · exact ⟨rfl, rfl, rfl⟩
    · exact ⟨rfl, rfl, rfl⟩
  · rw [if_neg h]
    have : l.getD f dFn = dFn := by rw [List.getD_eq_getElem?_getD, List.getElem?_eq_none (by omega)]; rfl
    rw [this]; exact ⟨rfl, rfl, rfl⟩
theorem hdE.symm {l l' : List Fn} (h : hdE l l') : hdE l' l := ⟨h.1.symm, fun k => ⟨(h.2 k).1.symm, (h.2 k).2.1.symm, (h.2 k).2.2.symm⟩⟩
theorem hdE.trans {l l' l'' : List Fn} (h : hdE l l') (h2 : hdE l' l'') : hdE l l'' := ⟨h.1.trans h2.1, fun k => ⟨(h.2 k).1.trans (h2.2 k).1, (h.2 k).2.1.trans (h2.2 k).2.1, (h.2 k).2.2.trans (h2.2 k).2.2⟩⟩
/-- how many guards the first k functions get -/
def gsum (nd : Nat → Nat → Bool) (l : List Fn) : Nat → Nat
  | 0 => 0
  | k + 1 => gsum nd l k + (if k < l.length then gcn (nd k) (fC (l.getD k dFn)).length else 0)
theorem sumF_range {l : List Fn} : ∀ {g : Nat → Fn → Fn}, sumF (l.mapIdx g) = sumR l.length (fun f => lenF (g f (l.getD f dFn))) := by
  induction l with
  | nil => intro g; rfl
  | cons x l ih =>
    intro g
    rw [List.mapIdx_cons, sumF_cons, ih, List.length_cons]
    unfold sumR
    rw [List.range_succ_eq_map, List.map_cons, List.sum_cons, List.map_map]
    rfl
theorem mix_sum : ∀ k, k ≤ l.length → sumF (mixP nd k l) = sumF l + 2 * gsum nd l k := by
  intro k hk
  have h0 : sumF l = sumR l.length (fun f => lenF (l.getD f dFn)) := by
    have := sumF_range (l := l) (g := fun _ x => x)
    rw [← this]
    congr 1
    apply List.ext_getElem
    · rw [List.length_mapIdx]
    · intro i h1 h2; rw [List.getElem_mapIdx]
  have h1 := sumF_range (l := l) (g := fun f x => if f < k then frF (nd f) x else x)
  unfold mixP
  rw [h1, h0]
  have : ∀ m, m ≤ l.length → sumR m (fun f => lenF (if f < k then frF (nd f) (l.getD f dFn) else l.getD f dFn)) = sumR m (fun f => lenF (l.getD f dFn)) + 2 * gsum nd l (min m k) := by
    intro m
    induction m with
    | zero => intro _; rw [Nat.zero_min]; rfl
    | succ m ih =>
      intro hm
      rw [sumR_s, sumR_s, ih (by omega)]
      by_cases c : m < k
      · rw [if_pos c, frF_sum, show min m k = m by omega, show min (m + 1) k = m + 1 by omega, gsum, if_pos (by omega)]
        omega
      · rw [if_neg c, show min m k = k by omega, show min (m + 1) k = k by omega]
        omega
  rw [this l.length (Nat.le_refl _), show min l.length k = k by omega]
/-- the forged program is as programs can be -/
theorem mix_ok (hok : pgOK l) (hnd : ∀ f, (hf : f < l.length) → ∀ i, i < (fC l[f]).length → nd f i = true → opA l[f] i = 26) (h4 : ∀ f, (hf : f < l.length) → f < k → mv (nd f) (fC l[f]).length ≤ 400) (hk : k ≤ l.length) (h8 : 4 + (sumF l + 2 * gsum nd l k) ≤ 8192) : pgOK (mixP nd k l) := by
  obtain ⟨o1, o2, o3, o4⟩ := hok
  refine ⟨by rw [mix_len]; exact o1, by rw [mix_len]; exact o2, fun f hf => ?_, ?_⟩
  · have hf' : f < l.length := by rw [mix_len] at hf; exact hf
    rw [mix_len, mix_at hf']
    split
    · rename_i c; exact frF_ok (o3 f hf') (h4 f hf' c) (hnd f hf')
    · exact o3 f hf'
  · have := mix_sum (nd := nd) (l := l) k hk
    show 4 + sumF (mixP nd k l) ≤ 8192
    rw [this]; exact h8
/-- and its functions verify -/
theorem mix_ver (hok : pgOK l) (hva : vAll l = none) (hnd : ∀ f, (hf : f < l.length) → ∀ i, i < (fC l[f]).length → nd f i = true → opA l[f] i = 26) (hf : f < l.length) (h4 : f < k → mv (nd f) (fC l[f]).length ≤ 400) : ∃ V, vFun (mixP nd k l) ((mixP nd k l)[f]'(by rw [mix_len]; exact hf)) f = .ok V := by
  have hfo := hok.2.2.1 f hf
  have hh := mix_hd (nd := nd) (k := k) (l := l)
  rw [mix_at hf]
  by_cases c : f < k
  · rw [if_pos c]
    have hfo2 := frF_ok hfo (h4 c) (hnd f hf)
    exact vFun_fit (by rw [mix_len]; exact hfo2) (frF_ty hh hfo (vTy_ty hok hva hf) (hnd f hf))
  · rw [if_neg c, ← vFun_cong hh]
    exact vAt_ok hf (vAll_at hva hf)
end

section
variable {s : yS} {p : Nat}
/-- guards, those below G looked up -/
def gd2 (s : yS) (p g : Nat) (d : Gd) : Prop := (sI s (p + 7)) g = nI (gH d) ∧ (sI s (p + 8)) g = Int32.ofInt (gV d) ∧ (sI s (p + 9)) g = bI (gO d) ∧ (sI s 102) g = nI (gP d) ∧ (gC d = true → (sJ s 101) g = Int64.ofInt (cN 32 0 (gN' d)))
def gsC (s : yS) (p : Nat) (ps : PS) (G : Nat) : Prop := ∀ (g : Nat) (h : g < (pG ps).length), gd2 s p g (pG ps)[g] ∧ (sI s (p + 6)) g = nI (if g < G then sbj ps (pG ps)[g] else if gC (pG ps)[g] then 3 else gW (pG ps)[g])
/-- ways' targets, those below W looked up -/
def wtC (s : yS) (p : Nat) (ps : PS) (W : Nat) : Prop := ∀ (w : Nat) (h : w < (pW ps).length), w < W → (sI s (p + 4)) ((pR ps).length + w) = nI ((pN ps).idxOf (wN (pW ps)[w]))
theorem c_findSubject {ps : PS} {G : Nat} {c : Int} {Q : Int32 → yS → Prop} (hp : polC s p) (hok : rsOK ps) (hcs : csC s p (pC ps) (pR ps)) (hg : gsC s p ps G) (hG : G < (pG ps).length) (hc1 : -1 ≤ c) (hc2 : c ≤ 15)
    (Hok : lkE ps (lkG (pG ps) c G) = none → ∀ s', (∀ a i, ¬ (a = p + 6 ∧ i = G) → sI s' a i = sI s a i) → (∀ a i, sJ s' a i = sJ s a i) → (∀ a i, sR s' a i = sR s a i) → gsC s' p ps (G + 1) → Q 1 s')
    (Herr : ∀ e, lkE ps (lkG (pG ps) c G) = some e → Q 0 (wI (wI s 91 0 (nI e.1)) 91 1 (nI e.2))) : W_X4_findSubject s (nI (ccl c)) (nI G) Q := by
  obtain ⟨o1, o2, o3, o4, o5, o6, o7, o8, o9, o10, o11, o12⟩ := hok
  have hp3 := hp.1
  have hgd := hg G hG
  have hd := o5 _ (List.getElem_mem hG)
  have hgetD : (pG ps).getD G gdD = (pG ps)[G] := getD_at hG
  have hlk : lkG (pG ps) c G = (if gC (pG ps)[G] then 0 else 2, G, c, gP (pG ps)[G]) := by
    unfold lkG; rw [show (false, 0, [], 0, 0, 0, false) = gdD from rfl, hgetD]
  rw [hlk] at Hok Herr
  have hgs : sI s (p + 6) G = nI (if gC (pG ps)[G] then 3 else gW (pG ps)[G]) := by have := hgd.2; rw [if_neg (by omega)] at this; exact this
  have hpl : sI s 102 G = nI (gP (pG ps)[G]) := hgd.1.2.2.2.1
  have step : ∀ s', (∀ a i, ¬ (a = p + 6 ∧ i = G) → sI s' a i = sI s a i) → (∀ a i, sJ s' a i = sJ s a i) → sI s' (p + 6) G = nI (sbj ps (pG ps)[G]) → gsC s' p ps (G + 1) := by
    intro s' f fJ hv g hgl
    have := hg g hgl
    refine ⟨?_, ?_⟩
    · unfold gd2 at this ⊢
      rw [f _ _ (by omega), f _ _ (by omega), f _ _ (by omega), f _ _ (by omega), fJ]; exact this.1
    · by_cases cg : g = G
      · subst cg; rw [if_pos (by omega)]; exact hv
      · rw [f _ _ (by omega), this.2]
        by_cases cl : g < G
        · rw [if_pos cl, if_pos (by omega)]
        · rw [if_neg cl, if_neg (show ¬ g < G + 1 by omega)]
  unfold W_X4_findSubject
  refine ⟨p, hp.2, hp.kd, nI_inU (by omega) (by omega), ?_⟩
  intro x3 e3
  rw [nI_ix (n := G) (by omega), hgs] at e3
  subst e3
  rw [nI_ix (n := G) (by omega), hpl]
  cases hgc : gC (pG ps)[G]
  · rw [hgc] at Hok Herr
    have hw2 := hd.1 hgc
    simp only [Bool.false_eq_true, if_false] at Hok Herr ⊢
    rw [nI_leU (by omega) (by omega)]
    refine ⟨fun hh => absurd hh (by omega), fun _ => ?_⟩
    have hccb : ccl c ≤ 16 := by unfold ccl; split <;> omega
    have okk : ¬ (0 ≤ c ∧ c % 4 ≤ gW (pG ps)[G]) → Q 1 s := by
      intro hno
      refine Hok ?_ s (fun _ _ _ => rfl) (fun _ _ => rfl) (fun _ _ => rfl) (step s (fun _ _ _ => rfl) (fun _ _ => rfl) ?_)
      · unfold lkE; rw [if_pos rfl, if_neg]; dsimp only; rw [hgetD]; exact hno
      · rw [hgs, hgc]; unfold sbj; rw [hgc]; rfl
    rw [nI_inj (by omega) (by omega)]
    refine ⟨fun h16 => okk ?_, fun h16 => ?_⟩
    · unfold ccl at h16; split at h16 <;> omega
    · have hcn : c ≠ -1 := by intro hh; apply h16; unfold ccl; rw [if_pos hh]
      have hce : ccl c = c.toNat := by unfold ccl; rw [if_neg hcn]
      rw [nI_mod (by omega) (by omega), nI_ltU (by omega) (by omega), hce]
      refine ⟨fun hl => okk (by omega), fun hl => ⟨nI_inU (by omega) (by omega), ?_⟩⟩
      refine c_refuseLate ⟨fun _ => Herr (6, gP (pG ps)[G]) ?_, fun hz => absurd rfl hz⟩
      unfold lkE; rw [if_pos rfl, if_pos]; dsimp only; rw [hgetD]; omega
  · rw [hgc] at Hok Herr
    have hnm := (hd.2.1 hgc).2
    simp only [if_true] at Hok Herr ⊢
    refine ⟨fun _ => ?_, fun hh => absurd (by rw [nI_leU (by omega) (by omega)]; omega) hh⟩
    intro P52 hP52
    have hname : sJ s 101 G = Int64.ofInt (cN 32 0 (gN' (pG ps)[G])) := hgd.1.2.2.2.2 hgc
    have hlen : ((pC ps).map Prod.fst).length = (pC ps).length := List.length_map ..
    suffices hL : ∀ (m k : Nat), k + m = (pC ps).length → (∀ (i : Nat) (hi : i < ((pC ps).map Prod.fst).length), i < k → ((pC ps).map Prod.fst)[i] ≠ gN' (pG ps)[G]) → P52 (nI k) from hL (pC ps).length 0 (by omega) (fun i _ hi => by omega)
    intro m
    induction m with
    | zero =>
      intro k hk hno
      apply hP52
      refine ⟨p, hp.2, hp.kd, ?_⟩
      rw [hcs.1, nI_leU (by omega) (by omega)]
      refine ⟨fun _ => ⟨nI_inU (by omega) (by omega), ?_⟩, fun hh => absurd (by omega) hh⟩
      refine c_refuseLate ⟨Or.inl rfl, Herr (5, gP (pG ps)[G]) ?_⟩
      have hnin : ¬ gN' (pG ps)[G] ∈ (pC ps).map Prod.fst := by
        intro hin
        obtain ⟨i, hi, e⟩ := List.getElem_of_mem hin
        exact hno i hi (by omega) e
      unfold lkE; rw [if_neg (by simp), if_pos rfl, hgetD, if_neg hnin]
    | succ m ih =>
      intro k hk hno
      have hkl : k < ((pC ps).map Prod.fst).length := by omega
      apply hP52
      refine ⟨p, hp.2, hp.kd, ?_⟩
      rw [hcs.1, nI_leU (by omega) (by omega)]
      refine ⟨fun hh => absurd hh (by omega), fun _ => ⟨nI_inU (by omega) (by omega), nI_inU (by omega) (by omega), ?_⟩⟩
      have hk1 : sJ s 97 k = Int64.ofInt (cN 32 0 ((pC ps).map Prod.fst)[k]) := by rw [List.getElem_map]; exact (hcs.2 k (by omega)).2.1
      have hkn : isNm ((pC ps).map Prod.fst)[k] := by rw [List.getElem_map]; exact o3 _ (List.getElem_mem _)
      rw [nI_ix (n := k) (by omega), hk1, hname, lgc_eq0, Int64.toInt_inj, c32_inj hkn hnm]
      refine ⟨fun hne x12 e12 => ?_, fun he => ⟨p, hp.2, hp.kd, nI_inU (by omega) (by omega), ?_⟩⟩
      · subst e12; rw [nI_s]
        refine ih (k + 1) (by omega) (fun i hi hik => ?_)
        by_cases ci : i = k
        · subst ci; exact hne
        · exact hno i hi (by omega)
      · intro s15 e15
        rw [nI_addU] at e15
        have hidx := idx_at o1 hkl he
        have hv : sI s15 (p + 6) G = nI (sbj ps (pG ps)[G]) := by
          subst e15; rw [sI_w, if_pos ⟨rfl, rfl⟩]; unfold sbj; rw [if_pos hgc, hidx]
        have hf : ∀ a i, ¬ (a = p + 6 ∧ i = G) → sI s15 a i = sI s a i := by intro a i h1; subst e15; rw [sI_w, if_neg h1]
        refine Hok ?_ s15 hf (fun a i => by subst e15; rfl) (fun a i => by subst e15; rfl) (step s15 hf (fun a i => by subst e15; rfl) hv)
        have hin : gN' (pG ps)[G] ∈ (pC ps).map Prod.fst := by rw [← he]; exact List.getElem_mem hkl
        unfold lkE; rw [if_neg (by simp), if_pos rfl, hgetD, if_pos hin]
theorem c_findTarget {ps : PS} {W : Nat} {Q : yS → Prop} (hp : polC s p) (hok : rsOK ps) (hr : (pR ps).length ≤ 24) (hns : nsC s p (pC ps).length (pR ps).length (pN ps) (pW ps)) (hwy : wyC s (pR ps).length (pW ps)) (hW : W < (pW ps).length)
    (Hok : lkE ps (1, W, 0, wP (pW ps)[W]) = none → Q (wI s (p + 4) ((pR ps).length + W) (nI ((pN ps).idxOf (wN (pW ps)[W])))))
    (Herr : ∀ e, lkE ps (1, W, 0, wP (pW ps)[W]) = some e → Q (wI (wI s 91 0 (nI e.1)) 91 1 (nI e.2))) : W_X4_findTarget s (nI ((pR ps).length + W)) Q := by
  obtain ⟨o1, o2, o3, o4, o5, o6, o7, o8, o9, o10, o11, o12⟩ := hok
  have hgetD : (pW ps).getD W wyD = (pW ps)[W] := getD_at hW
  have hnm := o6 _ (List.getElem_mem hW)
  have hwv := hwy W hW
  unfold W_X4_findTarget
  intro P2 hP2
  suffices hL : ∀ (m k : Nat), k + m = (pN ps).length → (∀ (i : Nat) (hi : i < (pN ps).length), i < k → (pN ps)[i] ≠ wN (pW ps)[W]) → P2 (nI k) from hL (pN ps).length 0 (by omega) (fun i _ hi => by omega)
  intro m
  induction m with
  | zero =>
    intro k hk hno
    apply hP2
    refine ⟨p, hp.2, hp.kd, ?_⟩
    rw [hns.1, nI_leU (by omega) (by omega)]
    refine ⟨fun _ => ⟨nI_inU (by omega) (by omega), ?_⟩, fun hh => absurd (by omega) hh⟩
    rw [nI_ix (n := (pR ps).length + W) (by omega), hwv.2]
    refine c_refuseLate (Herr (5, wP (pW ps)[W]) ?_)
    have hnin : ¬ wN (pW ps)[W] ∈ pN ps := by
      intro hin
      obtain ⟨i, hi, e⟩ := List.getElem_of_mem hin
      exact hno i hi (by omega) e
    unfold lkE; rw [if_neg (by simp), if_neg (by simp), hgetD, if_neg hnin]
  | succ m ih =>
    intro k hk hno
    have hkl : k < (pN ps).length := by omega
    apply hP2
    refine ⟨p, hp.2, hp.kd, ?_⟩
    rw [hns.1, nI_leU (by omega) (by omega)]
    refine ⟨fun hh => absurd hh (by omega), fun _ => ⟨nI_inU (by omega) (by omega), nI_inU (by omega) (by omega), ?_⟩⟩
    rw [nI_ix (n := k) (by omega), nI_ix (n := (pR ps).length + W) (by omega), (hns.2 k hkl).1, hwv.1, lgc_eq0, Int64.toInt_inj, c32_inj (o4 _ (List.getElem_mem hkl)) hnm]
    refine ⟨fun hne x8 e8 => ?_, fun he => ⟨p, hp.2, hp.kd, nI_inU (by omega) (by omega), ?_⟩⟩
    · subst e8; rw [nI_s]
      refine ih (k + 1) (by omega) (fun i hi hik => ?_)
      by_cases ci : i = k
      · subst ci; exact hne
      · exact hno i hi (by omega)
    · intro s11 e11
      have hidx := idx_at o2 hkl he
      rw [hidx] at Hok
      subst e11
      refine Hok ?_
      have hin : wN (pW ps)[W] ∈ pN ps := by rw [← he]; exact List.getElem_mem hkl
      unfold lkE; rw [if_neg (by simp), if_neg (by simp), hgetD, if_pos hin]
theorem chn_get : ∀ (l : List (Int × Nat × Nat)) (a b : Nat), chn l a b → ∀ (q : Nat) (hq : q < l.length), (q = 0 → l[q].2.1 = a) ∧ (∀ (h : q + 1 < l.length), l[q + 1].2.1 = l[q].2.1 + l[q].2.2) ∧ (q + 1 = l.length → l[q].2.1 + l[q].2.2 = b)
  | [], a, b, h, q, hq => by simp at hq
  | x :: l, a, b, h, 0, hq => by
    obtain ⟨h1, h2⟩ := h
    refine ⟨fun _ => h1, fun h3 => ?_, fun h3 => ?_⟩
    · cases l with
      | nil => simp at h3
      | cons y l => exact (by rw [show (x :: y :: l)[0 + 1] = y from rfl, show (x :: y :: l)[0] = x from rfl, h1]; exact h2.1)
    · cases l with
      | nil => have : a + x.2.2 = b := h2
               show x.2.1 + x.2.2 = b; omega
      | cons y l => simp at h3
  | x :: l, a, b, h, q + 1, hq => by
    have ih := chn_get l _ b h.2 q (by simp at hq; omega)
    refine ⟨fun hh => absurd hh (by omega), fun h3 => ?_, fun h3 => ?_⟩
    · have h3' : q + 1 < l.length := by simp at h3; omega
      exact ih.2.1 h3'
    · exact ih.2.2 (by simp at h3; omega)

theorem at_of {α : Type} {l : List α} {q : Nat} {x : α} (hq : q < l.length) (h : l[q]? = some x) : l[q] = x := Option.some.inj ((List.getElem?_eq_getElem hq).symm.trans h)
theorem LL_R {ps : PS} {q : Nat} (hq : q < (LL ps).length) (h : q < (pR ps).length) : (LL ps)[q] = lkR (pG ps) (pR ps)[q] := by
  apply at_of
  unfold LL
  rw [List.getElem?_append_left (by rw [List.length_map]; exact h), List.getElem?_map, List.getElem?_eq_getElem h]; rfl
theorem qL_gR {ps : PS} {q : Nat} (hq : q < (qL ps).length) (h : q < (pR ps).length) : (qL ps)[q] = (rC (pR ps)[q], rF (pR ps)[q], rM (pR ps)[q]) := by
  apply at_of
  unfold qL
  rw [List.getElem?_append_left (by rw [List.length_map]; exact h), List.getElem?_map, List.getElem?_eq_getElem h]; rfl
theorem LL_W {ps : PS} {q w : Nat} (hq : q < (LL ps).length) (e : q = (pR ps).length + w) (h : w < (pW ps).length) : (LL ps)[q] = lkW (pG ps) w (pW ps)[w] := by
  apply at_of
  unfold LL
  rw [List.getElem?_append_right (by rw [List.length_map]; omega), List.getElem?_mapIdx, List.length_map, show q - (pR ps).length = w by omega, List.getElem?_eq_getElem h]; rfl
theorem qL_gW {ps : PS} {q w : Nat} (hq : q < (qL ps).length) (e : q = (pR ps).length + w) (h : w < (pW ps).length) : (qL ps)[q] = (wCl (pW ps)[w], wF (pW ps)[w], wM (pW ps)[w]) := by
  apply at_of
  unfold qL
  rw [List.getElem?_append_right (by rw [List.length_map]; omega), List.length_map, List.getElem?_map, show q - (pR ps).length = w by omega, List.getElem?_eq_getElem h]; rfl
/-- the other one's policy, read and looked up -/
def poC (s : yS) (p : Nat) (ps : PS) : Prop := (sI s p 0) = nI (pC ps).length ∧ (sI s p 1) = nI (pN ps).length ∧ (∀ (k : Nat) (h : k < (pC ps).length), (sI s (p + 1)) k = nI (pC ps)[k].2)
  ∧ (∀ k, k ≤ (pC ps).length → (sI s (p + 2)) k = nI ((pR ps).countP (fun r => decide (rO r < k)))) ∧ (∀ k, k ≤ (pN ps).length → (sI s (p + 2)) ((pC ps).length + k) = nI ((pR ps).length + (pW ps).countP (fun w => decide (wO w < k))))
  ∧ clC s p (qL ps) ∧ rlC s p (pR ps) ∧ wtC s p ps (pW ps).length ∧ (sI s p 5) = nI (pG ps).length
  ∧ (∀ (g : Nat) (h : g < (pG ps).length), (sI s (p + 6)) g = nI (sbj ps (pG ps)[g]) ∧ (sI s (p + 7)) g = nI (gH (pG ps)[g]) ∧ (sI s (p + 8)) g = Int32.ofInt (gV (pG ps)[g]) ∧ (sI s (p + 9)) g = bI (gO (pG ps)[g]))
  ∧ ruC s p (pR ps)
theorem c_findNames {ps : PS} {Q : Int32 → yS → Prop} (hp : polC s p) (hps : psC s p ps) (hl : lenP ps) (hwf : wfI ps) (hN : pN ps ≠ []) (hz : (sI s 91 0) = 0)
    (Hok : pRes ps = none → ∀ s', frM (dN p) s s' → (sI s' 91 0) = 0 → (sI s' 91 1) = (sI s 91 1) → poC s' p ps → Q 0 s')
    (Herr : ∀ e, pRes ps = some e → 5 ≤ e.1 → e.1 ≤ 6 → ∀ s', frM (dN p) s s' → (sI s' 91 0) = nI e.1 → (sI s' 91 1) = nI e.2 → Q (nI e.1) s') : W_X4_findNames s Q := by
  have hp3 := hp.1
  have hok := wfI_rsOK hwf hl
  obtain ⟨o1, o2, o3, o4, o5, o6, o7, o8, o9, o10, o11, o12⟩ := hok
  have hok := wfI_rsOK hwf hl
  have hchn := hwf.2.2.2.2.2.2.2.1
  have hqlen := qL_len ps
  have hLlen := LL_len ps
  obtain ⟨l1, l2, l3, l4⟩ := hl
  have hl : lenP ps := ⟨l1, l2, l3, l4⟩
  have heb : ∀ l e, lkE ps l = some e → 5 ≤ e.1 ∧ e.1 ≤ 6 := by
    intro l e he
    unfold lkE at he
    split at he
    · split at he
      · simp at he; rw [← he]; simp
      · simp at he
    · split at he
      · split at he
        · simp at he
        · simp at he; rw [← he]; simp
      · split at he
        · simp at he
        · simp at he; rw [← he]; simp
  unfold W_X4_findNames
  refine ⟨p, hp.2, hp.kd, ?_⟩
  refine c_close hp3 hps hl hwf hN (fun s2 F2 h91 h4 h6 p2 ru2 cf2 => ?_)
  intro P9 hP9
  -- how far it is
  suffices hL : ∀ (m q : Nat) (s4 : yS), q + m = (qL ps).length → (∀ a i, a ≠ p + 4 → a ≠ p + 6 → sI s4 a i = sI s2 a i) → (∀ i, i < (pR ps).length → sI s4 (p + 4) i = sI s2 (p + 4) i) → (∀ a i, sJ s4 a i = sJ s2 a i) → (∀ a i, sR s4 a i = sR s2 a i) → (∀ (k : Nat) (hk : k < (LL ps).length), k < q → ∀ l ∈ (LL ps)[k], lkE ps l = none) → (∀ (hq : q < (qL ps).length), gsC s4 p ps (qL ps)[q].2.1) → (q = (qL ps).length → gsC s4 p ps (pG ps).length) → wtC s4 p ps (q - (pR ps).length) → P9 (nI q) s4 by
    refine hL (qL ps).length 0 s2 (by omega) (fun _ _ _ _ => rfl) (fun _ _ => rfl) (fun _ _ => rfl) (fun _ _ => rfl) (fun k _ hk => by omega) (fun hq => ?_) (fun hq => ?_) (fun w _ hw => by omega)
    · have h0 := (chn_get _ _ _ hchn 0 hq).1 rfl
      rw [h0]
      intro g hg
      have := p2.2.2.2.2.2.2 g hg
      unfold gdc1 at this
      exact ⟨this.2, by rw [if_neg (by omega)]; exact this.1⟩
    · have h0 : (pG ps).length = 0 := by
        have e : qL ps = [] := List.length_eq_zero_iff.mp hq.symm
        rw [e] at hchn; have : 0 = (pG ps).length := hchn; omega
      intro g hg; omega
  intro m
  have fin : ∀ (s4 : yS), (∀ a i, a ≠ p + 4 → a ≠ p + 6 → sI s4 a i = sI s2 a i) → (∀ i, i < (pR ps).length → sI s4 (p + 4) i = sI s2 (p + 4) i) → (∀ a i, sJ s4 a i = sJ s2 a i) → (∀ a i, sR s4 a i = sR s2 a i) → (∀ (k : Nat) (hk : k < (LL ps).length), ∀ l ∈ (LL ps)[k], lkE ps l = none) → gsC s4 p ps (pG ps).length → wtC s4 p ps (pW ps).length → Q (sI s4 91 0) s4 := by
    intro s4 f4 f4r f4J f4R hE hg hw
    have z4 : sI s4 91 0 = 0 := by rw [f4 _ _ (by omega) (by omega), h91]; exact hz
    rw [z4]
    refine Hok (by unfold pRes; rw [lkOf_LL]; exact flat_none hE) s4 ?_ z4 (by rw [f4 _ _ (by omega) (by omega), h91]) ?_
    · refine ⟨fun a i hd => ?_, fun a i hd => (f4J a i).trans (F2.2.1 a i hd), fun a i => (f4R a i).trans (F2.2.2 a i)⟩
      rw [f4 _ _ (fun hh => hd (by unfold dN; omega)) (fun hh => hd (by unfold dN; omega))]; exact F2.1 a i hd
    · obtain ⟨b1, b2, b3, b4, b5, b6⟩ := p2
      refine ⟨(f4 _ _ (by omega) (by omega)).trans b1.1, (f4 _ _ (by omega) (by omega)).trans b2.1, fun k hk => (f4 _ _ (by omega) (by omega)).trans (b1.2 k hk).1, fun k hk => ?_, fun k hk => ?_, b5.fr (f4 _ _ (by omega) (by omega)) (fun i hi => f4 _ _ (by omega) (by omega)) (fun i hi => f4 _ _ (by omega) (by omega)), b3.fr f4r, hw, (f4 _ _ (by omega) (by omega)).trans b6.1, fun g hg' => ?_, ?_⟩
      · rw [f4 _ _ (by omega) (by omega)]
        by_cases ck : k < (pC ps).length
        · exact (b1.2 k ck).2.2
        · have e : k = (pC ps).length := by omega
          subst e
          have hpos : 0 < (pN ps).length := List.length_pos_iff.mpr hN
          have := (b2.2 0 hpos).2
          have e0 : (pW ps).countP (fun w => decide (wO w < 0)) = 0 := by rw [List.countP_eq_zero]; intro w _; simp
          rw [e0] at this
          rw [countP_all (fun r hr => by have := (hwf.2.2.2.2.2.1 r hr).1; simpa using this)]
          exact this
      · rw [f4 _ _ (by omega) (by omega)]
        by_cases ck : k < (pN ps).length
        · exact (b2.2 k ck).2
        · have e : k = (pN ps).length := by omega
          subst e
          rw [countP_all (fun w hw => by have := (hwf.2.2.2.2.2.2.1 w hw).1; simpa using this)]
          exact cf2
      · have := hg g hg'
        rw [if_pos hg'] at this
        exact ⟨this.2, this.1.1, this.1.2.1, this.1.2.2.1⟩
      · intro c hc
        rw [f4 _ _ (by omega) (by omega)]; exact ru2 c hc
  induction m with
  | zero =>
    intro q s4 hq f4 f4r f4J f4R hE hg1 hg2 hw
    have hp4 : polC s4 p := ⟨hp3, (f4R _ _).trans ((F2.2.2 _ _).trans hp.2)⟩
    have c4 : sI s4 p 4 = nI (qL ps).length := by rw [f4 _ _ (by omega) (by omega)]; exact p2.2.2.2.2.1.1
    apply hP9
    refine ⟨p, hp4.2, hp4.kd, ?_⟩
    rw [c4, nI_leU (by omega) (by omega)]
    refine ⟨fun _ => fin s4 f4 f4r f4J f4R (fun k hk => hE k hk (by omega)) (hg2 (by omega)) ?_, fun hh => absurd (by omega) hh⟩
    rw [show q - (pR ps).length = (pW ps).length by omega] at hw; exact hw
  | succ m ih =>
    intro q s4 hq f4 f4r f4J f4R hE hg1 hg2 hw
    have hql : q < (qL ps).length := by omega
    have hqL : q < (LL ps).length := by omega
    have hg := hg1 hql
    have hp4 : polC s4 p := ⟨hp3, (f4R _ _).trans ((F2.2.2 _ _).trans hp.2)⟩
    have c4 : sI s4 p 4 = nI (qL ps).length := by rw [f4 _ _ (by omega) (by omega)]; exact p2.2.2.2.2.1.1
    have z4 : sI s4 91 0 = 0 := by rw [f4 _ _ (by omega) (by omega), h91]; exact hz
    have hcg := chn_get _ _ _ hchn q hql
    have hcl := chn_le _ _ _ hchn
    have hqr := hcl.2 _ (List.getElem_mem hql)
    have cl2 := p2.2.2.2.2.1
    -- where its guards begin and end
    have hfrom : sI s4 (p + 5) q = nI (qL ps)[q].2.1 := by
      rw [f4 _ _ (by omega) (by omega)]
      cases q with
      | zero => rw [cl2.2.1, hcg.1 rfl]; rfl
      | succ k =>
        have h1 := (cl2.2.2 k (by omega)).2
        have h2 := (chn_get _ _ _ hchn k (by omega)).2.1 hql
        rw [h1, h2]
    have hto : ∀ s' : yS, (∀ a i, a ≠ p + 4 → a ≠ p + 6 → sI s' a i = sI s2 a i) → sI s' (p + 5) (q + 1) = nI ((qL ps)[q].2.1 + (qL ps)[q].2.2) := by
      intro s' f'; rw [f' _ _ (by omega) (by omega)]; exact (cl2.2.2 q hql).2
    have hcall : ∀ s' : yS, (∀ a i, a ≠ p + 4 → a ≠ p + 6 → sI s' a i = sI s2 a i) → sI s' (p + 3) q = nI (ccl (qL ps)[q].1) := by
      intro s' f'; rw [f' _ _ (by omega) (by omega)]; exact (cl2.2.2 q hql).1
    -- the clause and what is looked up of it
    have hLq : ∃ W : List Lk, (LL ps)[q] = (List.range' (qL ps)[q].2.1 (qL ps)[q].2.2).map (lkG (pG ps) (qL ps)[q].1) ++ W ∧ (q < (pR ps).length → W = []) ∧ (∀ w, q = (pR ps).length + w → ∀ (hw : w < (pW ps).length), W = [(1, w, 0, wP (pW ps)[w])]) ∧ -1 ≤ (qL ps)[q].1 ∧ (qL ps)[q].1 ≤ 15 := by
      by_cases cq : q < (pR ps).length
      · have e1 := LL_R hqL cq
        have e2 := qL_gR hql cq
        refine ⟨[], ?_, fun _ => rfl, fun w hw => by omega, ?_⟩
        · rw [e1, e2, List.append_nil]; rfl
        · rw [e2]
          have := hwf.2.2.2.2.2.1 _ (List.getElem_mem cq)
          exact ⟨this.2.1, this.2.2.1⟩
      · obtain ⟨w, hw'⟩ : ∃ w, q = (pR ps).length + w := ⟨q - (pR ps).length, by omega⟩
        have hwl : w < (pW ps).length := by omega
        have e1 := LL_W hqL hw' hwl
        have e2 := qL_gW hql hw' hwl
        refine ⟨[(1, w, 0, wP (pW ps)[w])], by rw [e1, e2]; rfl, fun hh => absurd hh cq, fun w2 hw2 hl2 => ?_, ?_⟩
        · have : w2 = w := by omega
          subst this; rfl
        · rw [e2]
          have := hwf.2.2.2.2.2.2.1 _ (List.getElem_mem hwl)
          exact ⟨this.2.1, this.2.2.1⟩
    obtain ⟨WL, hLq, hW0, hW1, hcb1, hcb2⟩ := hLq
    generalize hA : (qL ps)[q].2.1 = A at *
    generalize hM : (qL ps)[q].2.2 = M at *
    generalize hC : (qL ps)[q].1 = C at *
    apply hP9
    refine ⟨p, hp4.2, hp4.kd, ?_⟩
    rw [c4, nI_leU (by omega) (by omega)]
    refine ⟨fun hh => absurd hh (by omega), fun _ => ⟨fun hh => absurd z4 hh, fun _ => ⟨p, hp4.2, hp4.kd, nI_inU (by omega) (by omega), ?_⟩⟩⟩
    intro P39 hP39 x23 e23
    rw [nI_ix (n := q) (by omega), hfrom] at e23
    subst e23
    -- a fault in this clause: the loop ends
    have stop : ∀ (e : Nat × Nat) (s' : yS), (∃ (t : Nat) (ht : t < (LL ps)[q].length), (∀ (i : Nat) (hi : i < (LL ps)[q].length), i < t → lkE ps (LL ps)[q][i] = none) ∧ lkE ps (LL ps)[q][t] = some e) → (∀ a i, a ≠ p + 4 → a ≠ p + 6 → sI s' a i = sI s2 a i) → (∀ a i, sJ s' a i = sJ s2 a i) → (∀ a i, sR s' a i = sR s2 a i) → ∀ x : Int32, P9 x (wI (wI s' 91 0 (nI e.1)) 91 1 (nI e.2)) := by
      intro e s' ⟨t, ht, hpre, he⟩ f' fJ' fR' x
      have hres : pRes ps = some e := by unfold pRes; rw [lkOf_LL]; exact flat_some (LL ps) q hqL t ht hE hpre he
      have hb := heb _ _ he
      have hQ := Herr e hres hb.1 hb.2 (wI (wI s' 91 0 (nI e.1)) 91 1 (nI e.2)) ⟨fun a i hd => ?_, fun a i hd => (fJ' a i).trans (F2.2.1 a i hd), fun a i => (fR' a i).trans (F2.2.2 a i)⟩ (by rw [sI_w, if_neg (by omega), sI_w, if_pos ⟨rfl, rfl⟩]) (by rw [sI_w, if_pos ⟨rfl, rfl⟩])
      · have v0 : sI (wI (wI s' 91 0 (nI e.1)) 91 1 (nI e.2)) 91 0 = nI e.1 := by rw [sI_w, if_neg (by omega), sI_w, if_pos ⟨rfl, rfl⟩]
        apply hP9
        refine ⟨p, (fR' _ _).trans ((F2.2.2 _ _).trans hp.2), hp.kd, ?_⟩
        rw [v0]
        refine ⟨fun _ => hQ, fun _ => ⟨fun _ => hQ, fun hh => ?_⟩⟩
        rw [nI_0U, nI_inj (by omega) (by omega)] at hh; omega
      · rw [sI_w, if_neg (fun hh => hd (by unfold dN; omega)), sI_w, if_neg (fun hh => hd (by unfold dN; omega)), f' _ _ (fun hh => hd (by unfold dN; omega)) (fun hh => hd (by unfold dN; omega))]
        exact F2.1 a i hd
    have hLqlen : (LL ps)[q].length = M + WL.length := by rw [hLq, List.length_append, List.length_map, List.length_range']
    have hLqi : ∀ (i : Nat) (hi : i < (LL ps)[q].length), i < M → (LL ps)[q][i] = lkG (pG ps) C (A + i) := by
      intro i hi him
      have : ((List.range' A M).map (lkG (pG ps) C) ++ WL)[i]'(by rw [← hLq]; exact hi) = lkG (pG ps) C (A + i) := by
        rw [List.getElem_append_left (by rw [List.length_map, List.length_range']; exact him), List.getElem_map, List.getElem_range']; simp
      rw [← this]; congr 1
    -- the guards
    suffices hI : ∀ (r g : Nat) (s10 : yS), g + r = M → (∀ a i, a ≠ p + 4 → a ≠ p + 6 → sI s10 a i = sI s2 a i) → (∀ i, sI s10 (p + 4) i = sI s4 (p + 4) i) → (∀ a i, sJ s10 a i = sJ s2 a i) → (∀ a i, sR s10 a i = sR s2 a i) → (∀ (i : Nat) (hi : i < (LL ps)[q].length), i < g → lkE ps (LL ps)[q][i] = none) → gsC s10 p ps (A + g) → P39 1 (nI (A + g)) s10 from
      hI M 0 s4 (by omega) f4 (fun _ => rfl) f4J f4R (fun i _ hi => by omega) hg
    intro r
    induction r with
    | zero =>
      intro g s10 hgr f10 f10w f10J f10R hpre hg10
      have hp10 : polC s10 p := ⟨hp3, (f10R _ _).trans ((F2.2.2 _ _).trans hp.2)⟩
      apply hP39
      rw [nI_s, nI_ix (n := q + 1) (by omega)]
      refine ⟨p, hp10.2, hp10.kd, nI_inU (by omega) (by omega), ?_⟩
      intro P79 hP79
      have hP : P79 := by
        apply hP79
        intro P99 hP99
        refine ⟨fun hh => absurd hh (by decide), fun _ => ⟨p, hp10.2, hp10.kd, ?_⟩⟩
        have cs10 : csC s10 p (pC ps) (pR ps) := p2.1.fr (f10 _ _ (by omega) (by omega)) (fun a i ha hi => f10 _ _ (by omega) (by omega)) (fun i hi => f10J _ _)
        have ns10 : nsC s10 p (pC ps).length (pR ps).length (pN ps) (pW ps) := p2.2.1.fr (f10 _ _ (by omega) (by omega)) (fun i hi => f10 _ _ (by omega) (by omega)) (fun i hi => f10J _ _)
        have nxt : ∀ (s13 : yS), (∀ a i, a ≠ p + 4 → a ≠ p + 6 → sI s13 a i = sI s2 a i) → (∀ i, i < (pR ps).length → sI s13 (p + 4) i = sI s2 (p + 4) i) → (∀ a i, sJ s13 a i = sJ s2 a i) → (∀ a i, sR s13 a i = sR s2 a i) → (∀ l ∈ WL, lkE ps l = none) → gsC s13 p ps (A + M) → wtC s13 p ps (q + 1 - (pR ps).length) → P99 s13 := by
          intro s13 f13 f13r f13J f13R hWE hg13 hw13
          apply hP99
          intro x14 e14; subst e14
          refine ih (q + 1) s13 (by omega) f13 f13r f13J f13R (fun k hk hkq l hl' => ?_) (fun hq1 => ?_) (fun hq1 => ?_) hw13
          · by_cases ck : k = q
            · subst ck
              rw [hLq, List.mem_append] at hl'
              rcases hl' with hl' | hl'
              · rw [List.mem_map] at hl'
                obtain ⟨x, hx, e⟩ := hl'
                rw [List.mem_range'_1] at hx
                have := hpre (x - A) (by omega) (by omega)
                rw [hLqi _ _ (by omega), show A + (x - A) = x by omega, e] at this
                exact this
              · exact hWE l hl'
            · exact hE k hk (by omega) l hl'
          · have := hcg.2.1 hq1; rw [this]; exact hg13
          · have := hcg.2.2 hq1; rw [← this]; exact hg13
        refine k_firstWay cs10 ns10 hl hN ?_
        rw [nI_ltU (by omega) (by omega)]
        have e0 : A + g = A + M := by omega
        rw [e0] at hg10
        refine ⟨fun hlt => nxt s10 f10 (fun i hi => (f10w i).trans (f4r i hi)) f10J f10R (by rw [hW0 hlt]; simp) hg10 (fun w hw' hwlt => by omega), fun hlt => ?_⟩
        obtain ⟨w, hqw⟩ : ∃ w, q = (pR ps).length + w := ⟨q - (pR ps).length, by omega⟩
        have hwl : w < (pW ps).length := by omega
        have hWw := hW1 w hqw hwl
        rw [hqw]
        have wy10 : wyC s10 (pR ps).length (pW ps) := p2.2.2.2.1.fr (fun i hi => f10J _ _) (fun i hi => f10 _ _ (by omega) (by omega))
        refine c_findTarget hp10 hok (by omega) ns10 wy10 hwl (fun hno => ?_) (fun e he => ?_)
        · refine nxt _ (fun a i h1 h2 => by rw [sI_w, if_neg (by omega)]; exact f10 a i h1 h2) (fun i hi => by rw [sI_w, if_neg (by omega)]; exact (f10w i).trans (f4r i hi)) (fun a i => f10J a i) (fun a i => f10R a i) (by rw [hWw]; intro l hl'; rw [List.mem_singleton] at hl'; rw [hl']; exact hno) ?_ ?_
          · intro g' hg'
            have := hg10 g' hg'
            refine ⟨?_, by rw [sI_w, if_neg (by omega)]; exact this.2⟩
            unfold gd2 at this ⊢
            rw [sI_w, if_neg (by omega), sI_w, if_neg (by omega), sI_w, if_neg (by omega), sI_w, if_neg (by omega)]; exact this.1
          · intro w2 hw2 hlt2
            by_cases cw : w2 = w
            · subst cw; rw [sI_w, if_pos ⟨rfl, rfl⟩]
            · rw [sI_w, if_neg (by omega), f10w]
              exact hw w2 hw2 (by omega)
        · apply hP99
          intro x14 e14
          have hML : M < (LL ps)[q].length := by rw [hLqlen, hWw]; simp
          refine stop e s10 ⟨M, hML, fun i hi him => hpre i hi (by omega), ?_⟩ f10 f10J f10R x14
          have : (LL ps)[q][M] = (1, w, 0, wP (pW ps)[w]) := by
            have e2 : ((List.range' A M).map (lkG (pG ps) C) ++ WL)[M]'(by rw [← hLq]; exact hML) = (1, w, 0, wP (pW ps)[w]) := by
              rw [List.getElem_append_right (by rw [List.length_map, List.length_range']; omega)]
              simp only [List.length_map, List.length_range', Nat.sub_self, hWw, List.getElem_cons_zero]
            rw [← e2]; congr 1
          rw [this]; exact he
      rw [hto s10 f10, nI_leU (by omega) (by omega)]
      exact ⟨fun _ => hP, fun hh => absurd (by omega) hh⟩
    | succ r ihg =>
      intro g s10 hgr f10 f10w f10J f10R hpre hg10
      have hp10 : polC s10 p := ⟨hp3, (f10R _ _).trans ((F2.2.2 _ _).trans hp.2)⟩
      have cs10 : csC s10 p (pC ps) (pR ps) := p2.1.fr (f10 _ _ (by omega) (by omega)) (fun a i ha hi => f10 _ _ (by omega) (by omega)) (fun i hi => f10J _ _)
      apply hP39
      rw [nI_s, nI_ix (n := q + 1) (by omega)]
      refine ⟨p, hp10.2, hp10.kd, nI_inU (by omega) (by omega), ?_⟩
      intro P79 hP79
      rw [hto s10 f10, nI_leU (by omega) (by omega)]
      refine ⟨fun hh => absurd hh (by omega), fun _ => ⟨fun hh => absurd hh (by decide), fun _ => ⟨p, hp10.2, hp10.kd, nI_inU (by omega) (by omega), ?_⟩⟩⟩
      rw [nI_ix (n := q) (by omega), hcall s10 f10]
      refine c_findSubject hp10 hok cs10 hg10 (by omega) hcb1 hcb2 (fun hno s' f' fJ' fR' hg' => ?_) (fun e he => ?_)
      · intro x22 e22; subst e22; rw [nI_s]
        refine ihg (g + 1) s' (by omega) (fun a i h1 h2 => (f' a i (by omega)).trans (f10 a i h1 h2)) (fun i => (f' _ i (by omega)).trans (f10w i)) (fun a i => (fJ' a i).trans (f10J a i)) (fun a i => (fR' a i).trans (f10R a i)) (fun i hi hig => ?_) hg'
        by_cases ci : i = g
        · subst ci; rw [hLqi _ _ (by omega)]; exact hno
        · exact hpre i hi (by omega)
      · -- a fault: the inner loop ends, then the outer
        intro x22 e22
        have hgL : g < (LL ps)[q].length := by omega
        have hst := stop e s10 ⟨g, hgL, hpre, by rw [hLqi _ _ (by omega)]; exact he⟩ f10 f10J f10R
        have hpE : sR (wI (wI s10 91 0 (nI e.1)) 91 1 (nI e.2)) 91 4 = p + 1 := hp10.2
        have hP : ∀ (P79 : Prop), ((∀ P99 : yS → Prop, (∀ (s13 : yS), (∀ x14 : Int32, x14 = nI (q + 1) → 
       P9 x14 s13) → P99 s13) → (((0 : Int32) = 0 → P99 (wI (wI s10 91 0 (nI e.1)) 91 1 (nI e.2))) ∧ (¬ (0 : Int32) = 0 → ∃ p15 : Nat, sR (wI (wI s10 91 0 (nI e.1)) 91 1 (nI e.2)) 91 4 = p15 + 1 ∧ kd p15 = some (7, 0) ∧ 
       W_X3_firstWay (wI (wI s10 91 0 (nI e.1)) 91 1 (nI e.2)) p15 
       (fun r16 => ((nI q < r16 → P99 (wI (wI s10 91 0 (nI e.1)) 91 1 (nI e.2)))
       ∧ (¬ nI q < r16 → W_X4_findTarget (wI (wI s10 91 0 (nI e.1)) 91 1 (nI e.2)) (nI q) 
        (fun s17 => P99 s17))))))) → P79) → P79 := by
          intro P79 h79
          apply h79
          intro P99 hP99
          exact ⟨fun _ => hP99 _ (fun x14 _ => hst x14), fun hh => absurd rfl hh⟩
        apply hP39
        refine ⟨p, hpE, hp.kd, ?_⟩
        rw [nI_s]
        refine ⟨nI_inU (by omega) (by omega), ?_⟩
        intro P79 h79
        have := hP P79 h79
        exact ⟨fun _ => this, fun _ => ⟨fun _ => this, fun hh => absurd rfl hh⟩⟩
end

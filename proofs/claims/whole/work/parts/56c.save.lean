/-! ===== PURE: a program's bytes ===== -/
def pI (y : Nat × Int32) : List Nat := byt (nI y.1) 1 ++ byt y.2 (wdI y.1 - 1)
def pH (h : Hn) : List Nat := byt (nI (hF h)) 2 ++ (byt (nI (hT h)) 2 ++ (byt (nI (hG h)) 2 ++ (byt (bI (!hA h)) 1 ++ byt (hC h) (if hA h then 0 else 4))))
def pIs (c : List (Nat × Int32)) : List Nat := c.flatMap pI
def pHs (c : List Hn) : List Nat := c.flatMap pH
def pF (x : Fn) (r : List Nat) : List Nat := byt (nI (fP x)) 1 ++ (byt (nI (fL x)) 1 ++ (byt (nI (fB x)) 2 ++ (byt (nI (fR x)) 1 ++ (byt (nI (fC x).length) 2 ++ (pIs (fC x) ++ (byt (nI (fH x).length) 1 ++ (pHs (fH x) ++ r)))))))
def pFs : List Fn → List Nat
  | [] => []
  | x :: l => pF x (pFs l)
def pP (l : List Fn) : List Nat := byt (nI 71) 1 ++ (byt (nI 70) 1 ++ (byt 1 1 ++ (byt (nI l.length) 1 ++ pFs l)))
theorem pIs_cons {y : Nat × Int32} {c : List (Nat × Int32)} {r : List Nat} : pIs (y :: c) ++ r = byt (nI y.1) 1 ++ (byt y.2 (wdI y.1 - 1) ++ (pIs c ++ r)) := by
  show ((byt (nI y.1) 1 ++ byt y.2 (wdI y.1 - 1)) ++ c.flatMap pI) ++ r = _
  rw [List.append_assoc, List.append_assoc]; rfl
theorem pHs_cons {y : Hn} {c : List Hn} {r : List Nat} : pHs (y :: c) ++ r = byt (nI (hF y)) 2 ++ (byt (nI (hT y)) 2 ++ (byt (nI (hG y)) 2 ++ (byt (bI (!hA y)) 1 ++ (byt (hC y) (if hA y then 0 else 4) ++ (pHs c ++ r))))) := by
  show (pH y ++ c.flatMap pH) ++ r = _
  unfold pH
  simp only [List.append_assoc]; rfl
theorem pIs_len {n all lc : Nat} : ∀ {c : List (Nat × Int32)}, (∀ y ∈ c, y.1 ≤ 29) → (pIs c).length = sumI c
  | [], _ => rfl
  | y :: c, h => by
    have hw := wd_g (h y (List.mem_cons_self ..))
    have ih := pIs_len (n := n) (all := all) (lc := lc) (c := c) (fun z hz => h z (List.mem_cons_of_mem _ hz))
    have e : pIs (y :: c) = pIs (y :: c) ++ [] := (List.append_nil _).symm
    rw [e, pIs_cons, List.append_nil, List.length_append, List.length_append, byt_len, byt_len, sumI_cons, ih]
    omega
theorem pHs_len : ∀ {c : List Hn}, (pHs c).length = sumH c
  | [] => rfl
  | y :: c => by
    have ih := pHs_len (c := c)
    have e : pHs (y :: c) = pHs (y :: c) ++ [] := (List.append_nil _).symm
    rw [e, pHs_cons, List.append_nil, List.length_append, List.length_append, List.length_append, List.length_append, List.length_append, byt_len, byt_len, byt_len, byt_len, byt_len, sumH_cons, ih]
    unfold lenH
    cases hA y
    · simp only [Bool.false_eq_true, if_false]; omega
    · simp only [if_true]; omega
theorem pFs_len : ∀ {l : List Fn}, (∀ x ∈ l, ∀ y ∈ fC x, y.1 ≤ 29) → (pFs l).length = sumF l
  | [], _ => rfl
  | x :: l, h => by
    have ih := pFs_len (l := l) (fun z hz => h z (List.mem_cons_of_mem _ hz))
    have h1 := pIs_len (n := 0) (all := 0) (lc := 0) (h x (List.mem_cons_self ..))
    show (pF x (pFs l)).length = _
    unfold pF
    rw [List.length_append, List.length_append, List.length_append, List.length_append, List.length_append, List.length_append, List.length_append, List.length_append, byt_len, byt_len, byt_len, byt_len, byt_len, byt_len, h1, pHs_len, ih, sumF_cons, lenF_eq]
    omega
theorem pP_len {l : List Fn} (h : wkOK l) : (pP l).length = 4 + sumF l := by
  have h1 := pFs_len (l := l) (fun x hx y hy => by
    obtain ⟨f, hf, e⟩ := List.getElem_of_mem hx
    subst e
    exact (h.2 f hf).2.2 y hy)
  unfold pP
  rw [List.length_append, List.length_append, List.length_append, List.length_append, byt_len, byt_len, byt_len, byt_len, h1]
  omega
theorem head4 {n : Nat} (h : n ≤ 12) : byt ((1195770112) ||| nI n) 4 = byt (nI 71) 1 ++ (byt (nI 70) 1 ++ (byt 1 1 ++ byt (nI n) 1)) := by
  have : ∀ n ∈ List.range 13, byt ((1195770112) ||| nI n) 4 = byt (nI 71) 1 ++ (byt (nI 70) 1 ++ (byt 1 1 ++ byt (nI n) 1)) := by decide +kernel
  exact this n (List.mem_range.mpr (by omega))
section
variable {s : yS} {g q : Nat} {l : List Fn}
/-- what a put keeps of a program -/
theorem pgC.wr {t u : yS} (hg : gOK g) (h : pgC t g l) (F : frM (fun a _ => a = 2) t u) : pgC u g l := by
  have hgv : g = 37 ∨ g = 55 ∨ g = 73 := hg
  exact h.fr (fun a i ha => F.1 a i (by omega))
theorem c_write {Q : Int32 → yS → Prop} (hg : gOK g) (hp : pgC s g l) (hok : pgOK l)
    (H : ∀ s', frM (fun a _ => a = 2) s s' → atC s' (pP l) (pP l).length → Q (nI (pP l).length) s') : W_X5_write s g 2 8192 Q := by
  have hgv : g = 37 ∨ g = 55 ∨ g = 73 := hg
  have hwk := hok.wk
  have hln := pP_len hwk
  have h8 : (pP l).length ≤ 8192 := by rw [hln]; exact hok.2.2.2
  have h12 := hok.2.1
  unfold W_X5_write
  refine c_byteLength hp hwk ?_
  rw [← hln, nI_leU (by omega) (by omega)]
  refine ⟨fun _ => ?_, fun hz => absurd h8 hz⟩
  rw [hp.1]
  have d0 : (pP l).drop 0 = byt ((1195770112) ||| nI l.length) 4 ++ pFs l := by
    rw [head4 h12, List.drop_zero]; unfold pP; simp only [List.append_assoc]
  generalize hW : pP l = W at *
  refine c_put (k := 0) (w := 4) h8 (by omega) (by omega) d0 (fun j hj => by omega) (fun s3 F3 A3 D3 L3 => ?_)
  intro P27 hP27
  suffices hL : ∀ (r f k : Nat) (t : yS), f + r = l.length → frM (fun a _ => a = 2) s t → atC t W k → W.drop k = pFs (l.drop f) → k ≤ W.length → P27 (nI k) (nI f) t from hL l.length 0 (0 + 4) s3 (by omega) F3 A3 D3 L3
  intro r
  induction r with
  | zero =>
    intro f k t hf Ft At Dt Lt
    obtain rfl : f = l.length := by omega
    have pt := hp.wr hg Ft
    apply hP27
    rw [pt.1]
    refine ⟨fun _ => ?_, fun hz => absurd ((nI_leU (by omega) (by omega)).mpr (Nat.le_refl _)) hz⟩
    rw [List.drop_length] at Dt
    have hk : k = W.length := by
      have := congrArg List.length Dt
      rw [List.length_drop] at this
      have : W.length - k = 0 := this
      omega
    rw [hk]; rw [hk] at At
    exact H t Ft At
  | succ r ih =>
    intro f k t hf Ft At Dt Lt
    have hfl : f < l.length := by omega
    have pt := hp.wr hg Ft
    have hin : vp_in (nI f) 12 := nI_inU (by omega) (by omega)
    obtain ⟨k1, k2, k3⟩ := hwk.2 f hfl
    rw [List.drop_eq_getElem_cons hfl] at Dt
    have Dt : W.drop k = pF l[f] (pFs (l.drop (f + 1))) := Dt
    unfold pF at Dt
    apply hP27
    rw [pt.1]
    refine ⟨fun hz => absurd ((nI_leU (by omega) (by omega)).mp hz) (by omega), fun _ => ?_⟩
    rw [nI_ix (n := f) (by omega), (pt.2 f hfl).1]
    refine ⟨hin, c_put (w := 1) h8 (by omega) Lt Dt At (fun s9 F9 A9 D9 L9 => ?_)⟩
    have F9' := Ft.trans F9
    rw [((hp.wr hg F9').2 f hfl).2.1]
    refine ⟨hin, c_put (w := 1) h8 (by omega) L9 D9 A9 (fun s12 F12 A12 D12 L12 => ?_)⟩
    have F12' := F9'.trans F12
    rw [((hp.wr hg F12').2 f hfl).2.2.1]
    refine ⟨hin, c_put (w := 2) h8 (by omega) L12 D12 A12 (fun s15 F15 A15 D15 L15 => ?_)⟩
    have F15' := F12'.trans F15
    rw [((hp.wr hg F15').2 f hfl).2.2.2.1]
    refine ⟨hin, c_put (w := 1) h8 (by omega) L15 D15 A15 (fun s18 F18 A18 D18 L18 => ?_)⟩
    have F18' := F15'.trans F18
    rw [((hp.wr hg F18').2 f hfl).2.2.2.2.1]
    refine ⟨hin, c_put (w := 2) h8 (by omega) L18 D18 A18 (fun s21 F21 A21 D21 L21 => ?_)⟩
    have F21' := F18'.trans F21
    intro P107 hP107 x47 e47
    subst e47
    rw [nI_mul] at hP107 ⊢
    generalize hx : l[f] = x at *
    suffices hC : ∀ (r i k : Nat) (t : yS), i + r = (fC x).length → frM (fun a _ => a = 2) s t → atC t W k → W.drop k = pIs ((fC x).drop i) ++ (byt (nI (fH x).length) 1 ++ (pHs (fH x) ++ pFs (l.drop (f + 1)))) → k ≤ W.length → P107 (nI k) (nI (f * 400 + i)) t by
      have h0 := hC (fC x).length 0 _ s21 (by omega) F21' A21 D21 L21
      rw [Nat.add_zero (f * 400)] at h0; exact h0
    intro r2
    induction r2 with
    | zero =>
      intro i k t hi Ft At Dt Lt
      obtain rfl : i = (fC x).length := by omega
      rw [List.drop_length] at Dt
      have Dt : W.drop k = byt (nI (fH x).length) 1 ++ (pHs (fH x) ++ pFs (l.drop (f + 1))) := Dt
      have pf := (hp.wr hg Ft).2 f hfl
      rw [hx] at pf
      apply hP107
      rw [pf.2.2.2.2.1, nI_addU, pf.2.2.2.2.2.1]
      refine ⟨hin, fun _ => ⟨hin, ?_⟩, fun hz => absurd ((nI_leU (by omega) (by omega)).mpr (Nat.le_refl _)) hz⟩
      refine c_put (w := 1) h8 (by omega) Lt Dt At (fun s28 F28 A28 D28 L28 => ?_)
      have F28' := Ft.trans F28
      intro P187 hP187 x37 e37
      subst e37
      rw [nI_mul] at hP187 ⊢
      suffices hH : ∀ (r j k : Nat) (t : yS), j + r = (fH x).length → frM (fun a _ => a = 2) s t → atC t W k → W.drop k = pHs ((fH x).drop j) ++ pFs (l.drop (f + 1)) → k ≤ W.length → P187 (nI k) (nI (f * 6 + j)) t by
        have h0 := hH (fH x).length 0 _ s28 (by omega) F28' A28 D28 L28
        rw [Nat.add_zero (f * 6)] at h0; exact h0
      intro r3
      induction r3 with
      | zero =>
        intro j k t hj Ft At Dt Lt
        obtain rfl : j = (fH x).length := by omega
        rw [List.drop_length] at Dt
        have Dt : W.drop k = pFs (l.drop (f + 1)) := Dt
        have pf := (hp.wr hg Ft).2 f hfl
        rw [hx] at pf
        apply hP187
        rw [pf.2.2.2.2.2.1, nI_addU]
        refine ⟨hin, fun _ => ?_, fun hz => absurd ((nI_leU (by omega) (by omega)).mpr (Nat.le_refl _)) hz⟩
        intro x33 e33
        subst e33; rw [nI_s]
        exact ih (f + 1) k t (by omega) Ft At Dt Lt
      | succ r3 ih3 =>
        intro j k t hj Ft At Dt Lt
        have hjl : j < (fH x).length := by omega
        rw [List.drop_eq_getElem_cons hjl, pHs_cons] at Dt
        have pf := (hp.wr hg Ft).2 f hfl
        rw [hx] at pf
        apply hP187
        rw [pf.2.2.2.2.2.1, nI_addU]
        refine ⟨hin, fun hz => absurd ((nI_leU (by omega) (by omega)).mp hz) (by omega), fun _ => ?_⟩
        have ph : ∀ {u : yS}, frM (fun a _ => a = 2) s u → hnC u g (f * 6 + j) (fH x)[j] := fun Fu => by
          have := (hp.wr hg Fu).2 f hfl
          rw [hx] at this
          exact this.2.2.2.2.2.2.2.1 j hjl
        have in72 : vp_in (nI (f * 6 + j)) 72 := nI_inU (by omega) (by omega)
        unfold W_X5_writeHandler
        rw [nI_ix (n := f * 6 + j) (by omega), (ph Ft).1]
        generalize (fH x)[j] = y at *
        refine ⟨in72, c_put (w := 2) h8 (by omega) Lt Dt At (fun u3 G3 B3 E3 M3 => ?_)⟩
        have G3' := Ft.trans G3
        rw [(ph G3').2.1]
        refine ⟨in72, c_put (w := 2) h8 (by omega) M3 E3 B3 (fun u6 G6 B6 E6 M6 => ?_)⟩
        have G6' := G3'.trans G6
        rw [(ph G6').2.2.1]
        refine ⟨in72, c_put (w := 2) h8 (by omega) M6 E6 B6 (fun u9 G9 B9 E9 M9 => ?_)⟩
        have G9' := G6'.trans G9
        refine ⟨in72, ?_⟩
        intro P61 hP61
        rw [(ph G9').2.2.2.1]
        have nx : ∀ (k2 : Nat) (u : yS), frM (fun a _ => a = 2) s u → atC u W k2 → W.drop k2 = pHs ((fH x).drop (j + 1)) ++ pFs (l.drop (f + 1)) → k2 ≤ W.length → ∀ x36 : Int32, x36 = nI (f * 6 + j) + 1 → P187 (nI k2) x36 u := by
          intro k2 u Fu Au Du Lu x36 e36
          subst e36; rw [nI_s, Nat.add_assoc]
          exact ih3 (j + 1) k2 u (by omega) Fu Au Du Lu
        cases hy : hA y with
        | false =>
          rw [hy] at E9
          refine ⟨fun _ => hP61 _ (c_put (w := 1) h8 (by omega) M9 E9 B9 (fun u13 G13 B13 E13 M13 => ?_)), fun hz => absurd rfl hz⟩
          have G13' := G9'.trans G13
          rw [(ph G13').2.2.2.1, (ph G13').2.2.2.2, hy]
          refine ⟨in72, fun _ => ⟨in72, c_put (w := 4) h8 (by omega) M13 E13 B13 (fun u17 G17 B17 E17 M17 => ?_)⟩, fun hz => absurd rfl hz⟩
          exact nx _ u17 (G13'.trans G17) B17 E17 M17
        | true =>
          rw [hy] at E9
          refine ⟨fun hz => absurd hz (by decide), fun _ => hP61 _ (c_put (w := 1) h8 (by omega) M9 E9 B9 (fun u13 G13 B13 E13 M13 => ?_))⟩
          have G13' := G9'.trans G13
          rw [(ph G13').2.2.2.1, hy]
          exact ⟨in72, fun hz => absurd hz (by decide), fun _ => nx _ u13 G13' B13 E13 M13⟩
    | succ r2 ih2 =>
      intro i k t hi Ft At Dt Lt
      have hil : i < (fC x).length := by omega
      rw [List.drop_eq_getElem_cons hil, pIs_cons] at Dt
      have h29 := k3 _ (List.getElem_mem hil)
      have hw := wd_g h29
      have pf : ∀ {u : yS}, frM (fun a _ => a = 2) s u → fnC u g f x := fun Fu => by
        have := (hp.wr hg Fu).2 f hfl
        rw [hx] at this; exact this
      have in48 : vp_in (nI (f * 400 + i)) 4800 := nI_inU (by omega) (by omega)
      apply hP107
      rw [(pf Ft).2.2.2.2.1, nI_addU]
      refine ⟨hin, fun hz => absurd ((nI_leU (by omega) (by omega)).mp hz) (by omega), fun _ => ?_⟩
      rw [nI_ix (n := f * 400 + i) (by omega), ((pf Ft).2.2.2.2.2.2.1 i hil).1]
      refine ⟨in48, c_put (w := 1) h8 (by omega) Lt Dt At (fun u3 G3 B3 E3 M3 => ?_)⟩
      have G3' := Ft.trans G3
      rw [((pf G3').2.2.2.2.2.2.1 i hil).1, ((pf G3').2.2.2.2.2.2.1 i hil).2, nI_ix (n := (fC x)[i].1) (by omega), hw.1]
      refine ⟨in48, in48, nI_inU (by omega) (by omega), c_put h8 (by omega) M3 E3 B3 (fun u6 G6 B6 E6 M6 => ?_)⟩
      intro x46 e46
      subst e46; rw [nI_s, Nat.add_assoc (f * 400) i 1]
      exact ih2 (i + 1) _ u6 (by omega) (G3'.trans G6) B6 E6 M6
end

section
variable {s : yS} {g : Nat} {l : List Fn} {R : List (Nat × Nat)} {r : Fr} {fs : List Fr}
/-- the running frame's stack is another -/
theorem cFs.stk {s' : yS} {st' : List Vl} {pl' : Nat} (h : cFs s l R (r :: fs)) (F : ∀ a i, ¬ ((a = 123 ∧ (i = 16 ∨ i = 17)) ∨ (a = 131 ∧ 16 * fs.length ≤ i) ∨ a = 124 ∨ a = 130 ∨ a = 129) → sI s' a i = sI s a i) (h17 : sI s' 123 17 = nI (16 * fs.length + st'.length)) (hk : kS s' R (16 * fs.length) st') (h16 : st'.length ≤ 16) : cFs s' l R ((jF r, pl', st', jL r) :: fs) := by
  obtain ⟨⟨⟨f1, f2, f3, f4⟩, c14, c15, c17⟩, cw⟩ := h
  exact ⟨⟨⟨(F _ _ (by omega)).trans f1, h16, hk, f4.fr (fun i _ _ => F _ _ (by omega))⟩, (F _ _ (by omega)).trans c14, (F _ _ (by omega)).trans c15, h17⟩, cw.fr (fun a i ha => F _ _ (by omega))⟩
theorem nIc {o k : Nat} (ho : o ≤ 29) (hk : k ≤ 29) : (nI o).toInt = (k : Int) ↔ o = k := by rw [nI_toIntU (by omega)]; omega
theorem getD_cons {st : List Vl} {k : Nat} (h : k < st.length) : st.drop k = st.getD k v0 :: st.drop (k + 1) := by rw [List.drop_eq_getElem_cons h, getD_at h]
theorem cvt_f {v : Int32} : cvt R (false, v) = v := by unfold cvt; exact if_neg (fun h => absurd (show false = true from h) (by decide))
theorem cvt_n {y : Vl} (h : y.1 = false) : cvt R y = y.2 := by unfold cvt; rw [h, if_neg (by decide)]
/-- pop, of the running frame -/
theorem c_pop1 {d e : Nat} {Q : Int32 → yS → Prop} (he : e = d + 1) (hlen : fs.length < 40) (hl : (jS r).length ≤ 16) (h17 : sI s 123 17 = nI (16 * fs.length + ((jS r).drop d).length)) (hk : kS s R (16 * fs.length) ((jS r).drop d)) (hd : d < (jS r).length)
    (H : ∀ s', frM (fun a i => a = 123 ∧ i = 17) s s' → sI s' 123 17 = nI (16 * fs.length + ((jS r).drop e).length) → kS s' R (16 * fs.length) ((jS r).drop e) → Q (cvt R ((jS r).getD d v0)) s') : W_X2_pop s Q := by
  subst he
  rw [getD_cons hd] at h17 hk
  have hdl : ((jS r).drop (d + 1)).length < 16 := by rw [List.length_drop]; omega
  refine c_popV h17 hk (by omega) (fun s' F' t' => H s' F' t' (hk.tl.fr (fun i _ _ => F'.1 _ _ (by omega))))
set_option maxHeartbeats 1000000 in
theorem c_doMove {o : Nat} {w : Int32} {Q : yS → Prop} (ho : o ≤ 5) (hF : cFs s l R (r :: fs)) (hpl : sI s 123 16 = nI (jP r + 1)) (hlen : fs.length < 40) (hL : o = 4 ∨ o = 5 → ∃ k, k < 12 ∧ w = nI k) (hn1 : o = 1 ∨ o = 2 ∨ o = 5 → 1 ≤ (jS r).length) (hn3 : o = 3 → 2 ≤ (jS r).length) (hn0 : o = 0 ∨ o = 2 ∨ o = 4 → (jS r).length < 16) (hty5 : o = 5 → ((jS r).getD 0 v0).1 = rbit (fnA l (jF r)) (ix w))
    (H : ∀ s', frM dStk s s' → cFs s' l R ((jF r, jP r + 1, (if o = 0 then (false, w) :: jS r else if o = 1 then (jS r).drop 1 else if o = 2 then (jS r).getD 0 v0 :: jS r else if o = 3 then (jS r).getD 1 v0 :: (jS r).getD 0 v0 :: (jS r).drop 2 else if o = 4 then (rbit (fnA l (jF r)) (ix w), jL r (ix w)) :: jS r else (jS r).drop 1), (if o = 5 then upF (jL r) (ix w) (tpV (jS r) 0) else jL r)) :: fs) → sI s' 123 16 = nI (jP r + 1) → Q s') : W_X2_doMove s (nI o) w Q := by
  obtain ⟨⟨⟨f1, f2, f3, f4⟩, c14, c15, c17⟩, cw⟩ := id hF
  have b640 : 16 * fs.length + 16 ≤ 640 := by omega
  unfold W_X2_doMove
  rw [nI_toIntU (n := o) (by omega)]
  have dr0 : (jS r).drop 0 = jS r := List.drop_zero
  refine ⟨fun c => ?_, fun c => ?_, fun c => ?_, fun c => ?_, fun c => ?_, fun c => ?_⟩
  · obtain rfl : o = 5 := by omega
    obtain ⟨k, hk, ek⟩ := hL (Or.inr rfl)
    refine c_pop1 (d := 0) (e := 1) (R := R) rfl hlen f2 (by rw [dr0]; exact c17) (by rw [dr0]; exact f3) (hn1 (by omega)) (fun s2 F2 t2 k2 => ?_)
    rw [c14, nI_mul, ek, nI_addU, nI_ix (n := fs.length * 12 + k) (by omega)]
    refine ⟨nI_inU (by omega) (by omega), ?_⟩
    intro s4 e4
    have n4 : ∀ a i, ¬ (a = 132 ∧ i = fs.length * 12 + k) → sI s4 a i = sI s2 a i := fun a i h => by subst e4; rw [sI_w, if_neg h]
    refine H s4 ?_ ⟨⟨⟨?_, ?_, ?_, fun j hj => ?_⟩, ?_, ?_, ?_⟩, ?_⟩ ?_
    · subst e4; exact (F2.mono (fun a i h => by unfold dStk; omega)).wI (by unfold dStk; omega)
    · rw [n4 _ _ (by omega), F2.1 _ _ (by omega)]; exact f1
    · show ((jS r).drop 1).length ≤ 16
      rw [List.length_drop]; omega
    · exact k2.fr (fun i _ _ => n4 _ _ (by omega))
    · show sI s4 132 (12 * fs.length + j) = cvt R (rbit (fnA l (jF r)) j, upF (jL r) (ix w) (tpV (jS r) 0) j)
      by_cases c : j = k
      · subst c
        rw [ek, nI_ix (by omega), upF_at]
        have h5 := hty5 rfl
        rw [ek, nI_ix (by omega)] at h5
        rw [← h5]
        subst e4; rw [sI_w, if_pos ⟨rfl, by omega⟩]; rfl
      · rw [ek, nI_ix (by omega), upF_ne c, n4 _ _ (by omega), F2.1 _ _ (by omega)]; exact f4 j hj
    · rw [n4 _ _ (by omega), F2.1 _ _ (by omega)]; exact c14
    · rw [n4 _ _ (by omega), F2.1 _ _ (by omega)]; exact c15
    · rw [n4 _ _ (by omega)]; exact t2
    · exact cw.fr (fun a i ha => by rw [n4 _ _ (by omega), F2.1 _ _ (by omega)])
    · rw [n4 _ _ (by omega), F2.1 _ _ (by omega)]; exact hpl
  · obtain rfl : o = 0 := by omega
    have h16 := hn0 (by omega)
    refine c_pushV (R := R) (y := (false, w)) cvt_f.symm c17 f3 (by omega) (fun s' F' t' k' => H s' (F'.mono (fun a i h => by unfold dStk; omega)) (hF.stk (fun a i h => F'.1 _ _ (by omega)) t' k' (by show (jS r).length + 1 ≤ 16; omega)) ((F'.1 _ _ (by omega)).trans hpl))
  · obtain rfl : o = 1 := by omega
    have h1 := hn1 (by omega)
    refine c_pop1 (d := 0) (e := 1) (R := R) rfl hlen f2 (by rw [dr0]; exact c17) (by rw [dr0]; exact f3) (by omega) (fun s' F' t' k' => H s' (F'.mono (fun a i h => by unfold dStk; omega)) (hF.stk (fun a i h => F'.1 _ _ (by omega)) t' k' (by show ((jS r).drop 1).length ≤ 16; rw [List.length_drop]; omega)) ((F'.1 _ _ (by omega)).trans hpl))
  · obtain rfl : o = 2 := by omega
    have h1 := hn1 (by omega)
    have h16 := hn0 (by omega)
    have hat := f3.at (i := 0) (by omega)
    rw [c17, nI_p (by omega), show 16 * fs.length + (jS r).length - 1 = 16 * fs.length + ((jS r).length - 1 - 0) by omega, nI_ix (by omega), hat]
    refine ⟨nI_inU (by omega) (by omega), c_pushV (R := R) (y := (jS r).getD 0 v0) rfl c17 f3 (by omega) (fun s' F' t' k' => H s' (F'.mono (fun a i h => by unfold dStk; omega)) (hF.stk (fun a i h => F'.1 _ _ (by omega)) t' k' (by show (jS r).length + 1 ≤ 16; omega)) ((F'.1 _ _ (by omega)).trans hpl))⟩
  · obtain rfl : o = 3 := by omega
    have h2 := hn3 rfl
    have hdl : ((jS r).drop 2).length + 2 ≤ 16 := by rw [List.length_drop]; omega
    refine c_pop1 (d := 0) (e := 1) (R := R) rfl hlen f2 (by rw [dr0]; exact c17) (by rw [dr0]; exact f3) (by omega) (fun s1 F1 t1 k1 => ?_)
    refine c_pop1 (d := 1) (e := 2) (R := R) rfl hlen f2 t1 k1 (by omega) (fun s2 F2 t2 k2 => ?_)
    refine c_pushV (R := R) (y := (jS r).getD 0 v0) rfl t2 k2 (by omega) (fun s3 F3 t3 k3 => ?_)
    refine c_pushV (R := R) (y := (jS r).getD 1 v0) rfl t3 k3 (by rw [List.length_cons]; omega) (fun s' F' t' k' => ?_)
    have kp : ∀ a i, ¬ ((a = 123 ∧ i = 17) ∨ (a = 131 ∧ 16 * fs.length ≤ i)) → sI s' a i = sI s a i := fun a i h => by rw [F'.1 _ _ (by omega), F3.1 _ _ (by omega), F2.1 _ _ (by omega), F1.1 _ _ (by omega)]
    refine H s' ?_ (hF.stk (fun a i h => kp _ _ (by omega)) t' k' (by show ((jS r).drop 2).length + 1 + 1 ≤ 16; omega)) ((kp _ _ (by omega)).trans hpl)
    exact (((F1.mono (fun a i h => by unfold dStk; omega)).trans (F2.mono (fun a i h => by unfold dStk; omega))).trans (F3.mono (fun a i h => by unfold dStk; omega))).trans (F'.mono (fun a i h => by unfold dStk; omega))
  · obtain rfl : o = 4 := by omega
    have h16 := hn0 (by omega)
    obtain ⟨k, hk, ek⟩ := hL (Or.inl rfl)
    rw [c14, nI_mul, ek, nI_addU, nI_ix (n := fs.length * 12 + k) (by omega)]
    have hl := f4 k hk
    rw [show 12 * fs.length + k = fs.length * 12 + k by omega] at hl
    rw [hl]
    refine ⟨nI_inU (by omega) (by omega), c_pushV (R := R) (y := (rbit (fnA l (jF r)) k, jL r k)) rfl c17 f3 (by omega) (fun s' F' t' k' => ?_)⟩
    refine H s' (F'.mono (fun a i h => by unfold dStk; omega)) ?_ ((F'.1 _ _ (by omega)).trans hpl)
    rw [ek, nI_ix (by omega)]
    exact hF.stk (fun a i h => F'.1 _ _ (by omega)) t' k' (by show (jS r).length + 1 ≤ 16; omega)
theorem i_div1 (x : Int32) : x / (-1) = -x := by
  rw [← Int32.toInt_inj, Int32.toInt_div, show (-1 : Int32).toInt = -1 from rfl, Int32.toInt_neg, Int.tdiv_neg, Int.tdiv_one]
theorem c_reckon {o : Nat} {a b' : Int32} {Q : Int32 → Prop} (ho : 6 ≤ o ∧ o ≤ 17) (hd : o = 9 ∨ o = 10 → ¬ b' = 0) (H : Q (wk o a b')) : W_X2_reckon s (nI o) a b' Q := by
  unfold W_X2_reckon
  rw [nI_toIntU (n := o) (by omega)]
  refine ⟨fun c => ?_, fun c => ?_, fun c => ?_, fun c => ?_, fun c => ?_, fun c => ?_, fun c => ?_, fun c => ?_, fun c => ?_, fun c => ?_, fun c => ?_, fun c => ?_⟩
  · obtain rfl : o = 17 := by omega
    have H : Q (if a = b' then 1 else 0) := H
    exact ⟨fun h => by rw [if_neg h] at H; exact H, fun h => by rw [if_pos h] at H; exact H⟩
  · obtain rfl : o = 6 := by omega
    exact H
  · obtain rfl : o = 7 := by omega
    exact H
  · obtain rfl : o = 8 := by omega
    exact H
  · obtain rfl : o = 9 := by omega
    exact ⟨fun h => ⟨h, H⟩, fun h => absurd h (hd (Or.inl rfl))⟩
  · obtain rfl : o = 10 := by omega
    exact ⟨fun h => ⟨h, H⟩, fun h => absurd h (hd (Or.inr rfl))⟩
  · obtain rfl : o = 11 := by omega
    exact H
  · obtain rfl : o = 12 := by omega
    exact H
  · obtain rfl : o = 13 := by omega
    exact H
  · obtain rfl : o = 14 := by omega
    exact H
  · obtain rfl : o = 15 := by omega
    exact H
  · obtain rfl : o = 16 := by omega
    have H : Q (if b' ≤ a then 0 else 1) := H
    exact ⟨fun h => by rw [if_pos h] at H; exact H, fun h => by rw [if_neg h] at H; exact H⟩
/-- what a raise comes to -/
def raC (s0 : yS) (l : List Fn) (R : List (Nat × Nat)) (o : Option (List Fr)) (c : Int32) (Q : yS → Prop) : Prop :=
  (∀ fs', o = some fs' → ∀ s', frM dStk s0 s' → cFs s' l R fs' → (∀ q fs2, fs' = q :: fs2 → sI s' 123 16 = nI (jP q)) → Q s') ∧ (o = none → ∀ s', frM (fun a i => dStk a i ∨ (a = 124 ∧ i ≤ 1)) s0 s' → sI s' 124 0 = 1 → sI s' 124 1 = c → Q s')
theorem c_raise {s0 : yS} {n : Nat} {c : Int32} {Q : yS → Prop} (hok : pgOK l) (hg : gOK g) (F0 : frM dStk s0 s) (h11 : sR s 123 11 = g + 1) (hp : pgC s g l) (hF : cFs s l R (r :: fs)) (h16 : sI s 123 16 = nI (jP r + 1)) (hw : okW l n r) (hc : okCs l n (jF r) fs) (hlen : fs.length + 1 ≤ 40) (H : raC s0 l R (rsd l c (r :: fs)) c Q) : W_X2_throwCode s c Q :=
  c_throwCode hok hg h11 hp hF h16 hw hc hlen (fun fs' hh s' F' c' p' => H.1 fs' hh s' (F0.trans F') c' p') (fun hh s' F' a' b' => H.2 hh s' ((F0.mono (fun a i h => Or.inl h)).trans F') a' b')
set_option maxHeartbeats 1000000 in
theorem c_doInts {n o : Nat} {Q : yS → Prop} (ho : 6 ≤ o ∧ o ≤ 17) (hok : pgOK l) (hg : gOK g) (h11 : sR s 123 11 = g + 1) (hp : pgC s g l) (hF : cFs s l R (r :: fs)) (hpl : sI s 123 16 = nI (jP r + 1)) (hlen : fs.length < 40) (hw : okW l n r) (hc : okCs l n (jF r) fs) (h2 : 2 ≤ (jS r).length) (ht : ((jS r).getD 0 v0).1 = false ∧ ((jS r).getD 1 v0).1 = false)
    (H1 : ¬ ((o = 9 ∨ o = 10) ∧ tpV (jS r) 0 = 0) → ∀ s', frM dStk s s' → cFs s' l R ((jF r, jP r + 1, (false, wk o (tpV (jS r) 1) (tpV (jS r) 0)) :: (jS r).drop 2, jL r) :: fs) → sI s' 123 16 = nI (jP r + 1) → Q s')
    (H0 : ((o = 9 ∨ o = 10) ∧ tpV (jS r) 0 = 0) → raC s l R (rsd l 1 ((jF r, jP r, (jS r).drop 2, jL r) :: fs)) 1 Q) : W_X2_doInts s (nI o) Q := by
  have hgv : g = 37 ∨ g = 55 ∨ g = 73 := hg
  obtain ⟨⟨⟨f1, f2, f3, f4⟩, c14, c15, c17⟩, cw⟩ := id hF
  have dr0 : (jS r).drop 0 = jS r := List.drop_zero
  have hdl : ((jS r).drop 2).length + 2 ≤ 16 := by rw [List.length_drop]; omega
  unfold W_X2_doInts
  refine c_pop1 (d := 0) (e := 1) (R := R) rfl hlen f2 (by rw [dr0]; exact c17) (by rw [dr0]; exact f3) (by omega) (fun s1 F1 t1 k1 => ?_)
  refine c_pop1 (d := 1) (e := 2) (R := R) rfl hlen f2 t1 k1 (by omega) (fun s2 F2 t2 k2 => ?_)
  rw [cvt_n ht.1, cvt_n ht.2]
  have F2' : frM (fun a i => a = 123 ∧ i = 17) s s2 := F1.trans F2
  have F2s : frM dStk s s2 := F2'.mono (fun a i h => by unfold dStk; omega)
  intro P34 hP34 P22 hP22
  have y34 : ¬ ((o = 9 ∨ o = 10) ∧ tpV (jS r) 0 = 0) → P34 := fun hn => by
    apply hP34
    refine c_reckon ho (fun h h0 => hn ⟨h, h0⟩) ?_
    refine c_pushV (R := R) (y := (false, _)) cvt_f.symm t2 k2 (by omega) (fun s' F' t' k' => ?_)
    have kp : ∀ a i, ¬ ((a = 123 ∧ i = 17) ∨ (a = 131 ∧ 16 * fs.length ≤ i)) → sI s' a i = sI s a i := fun a i h => by rw [F'.1 _ _ (by omega), F2'.1 _ _ (by omega)]
    exact H1 hn s' (F2s.trans (F'.mono (fun a i h => by unfold dStk; omega))) (hF.stk (fun a i h => kp _ _ (by omega)) t' k' (by rw [List.length_cons]; omega)) ((kp _ _ (by omega)).trans hpl)
  have y22 : (o = 9 ∨ o = 10) → P22 := fun h910 => by
    apply hP22
    refine ⟨fun hne => y34 (fun hh => hne hh.2), fun h0 => ?_⟩
    have hF2 : cFs s2 l R ((jF r, jP r, (jS r).drop 2, jL r) :: fs) := hF.stk (fun a i h => F2'.1 _ _ (by omega)) t2 k2 (by omega)
    exact c_raise (r := (jF r, jP r, (jS r).drop 2, jL r)) hok hg F2s ((F2s.2.2 _ _).trans h11) (hp.fr (fun a i ha => F2'.1 _ _ (by omega))) hF2 ((F2'.1 _ _ (by omega)).trans hpl) hw hc (by omega) (H0 ⟨h910, h0⟩)
  rw [nI_inj (by omega) (by omega), nI_inj (by omega) (by omega)]
  exact ⟨fun h => y22 (Or.inl h), fun n9 => ⟨fun n10 => y34 (fun hh => by omega), fun h => y22 (Or.inr h)⟩⟩
theorem c_doJump {o : Nat} {w : Int32} {k : Nat} {Q : yS → Prop} (ho : 17 < o ∧ o < 21) (hwk : w = nI k) (hk4 : k < 400) (hF : cFs s l R (r :: fs)) (hpl : sI s 123 16 = nI (jP r + 1)) (hlen : fs.length < 40) (h1 : ¬ o = 18 → 1 ≤ (jS r).length) (ht : ¬ o = 18 → ((jS r).getD 0 v0).1 = false)
    (H18 : o = 18 → ∀ s', frM dStk s s' → cFs s' l R ((jF r, ix w, jS r, jL r) :: fs) → sI s' 123 16 = nI (ix w) → Q s')
    (H : ¬ o = 18 → ∀ s', frM dStk s s' → cFs s' l R ((jF r, (if (o = 19 ∧ ¬ tpV (jS r) 0 = 0) ∨ (o = 20 ∧ tpV (jS r) 0 = 0) then ix w else jP r + 1), (jS r).drop 1, jL r) :: fs) → sI s' 123 16 = nI (if (o = 19 ∧ ¬ tpV (jS r) 0 = 0) ∨ (o = 20 ∧ tpV (jS r) 0 = 0) then ix w else jP r + 1) → Q s') : W_X2_doJump s (nI o) w Q := by
  obtain ⟨⟨⟨f1, f2, f3, f4⟩, c14, c15, c17⟩, cw⟩ := id hF
  have dr0 : (jS r).drop 0 = jS r := List.drop_zero
  have hwx : nI (ix w) = w := by rw [hwk, nI_ix (by omega)]
  unfold W_X2_doJump
  rw [nI_inj (by omega) (by omega), nI_inj (by omega) (by omega)]
  refine ⟨fun c => ?_, fun c => ?_⟩
  · intro s1 e1
    have F1 : frM (fun a i => a = 123 ∧ i = 16) s s1 := by subst e1; exact frM.rfl'.wI ⟨rfl, rfl⟩
    refine H18 c s1 (F1.mono (fun a i h => by unfold dStk; omega)) (hF.stk (fun a i h => F1.1 _ _ (by omega)) ((F1.1 _ _ (by omega)).trans c17) (f3.fr (fun i _ _ => F1.1 _ _ (by omega))) f2) ?_
    subst e1; rw [sI_w, if_pos ⟨rfl, rfl⟩, hwx]
  · have h1 := h1 c
    have hdl : ((jS r).drop 1).length ≤ 16 := by rw [List.length_drop]; omega
    refine c_pop1 (d := 0) (e := 1) (R := R) rfl hlen f2 (by rw [dr0]; exact c17) (by rw [dr0]; exact f3) (by omega) (fun s1 F1 t1 k1 => ?_)
    rw [cvt_n (ht c)]
    have go : ((o = 19 ∧ ¬ tpV (jS r) 0 = 0) ∨ (o = 20 ∧ tpV (jS r) 0 = 0)) → ∀ s6 : yS, s6 = wI s1 123 16 w → Q s6 := fun hc s6 e6 => by
      have H := H c
      rw [if_pos hc] at H
      have kp : ∀ a i, ¬ (a = 123 ∧ (i = 16 ∨ i = 17)) → sI s6 a i = sI s a i := fun a i h => by subst e6; rw [sI_w, if_neg (by omega)]; exact F1.1 _ _ (by omega)
      refine H s6 (by subst e6; exact (F1.mono (fun a i h => by unfold dStk; omega)).wI (by unfold dStk; omega)) (hF.stk (fun a i h => kp _ _ (by omega)) (by subst e6; rw [sI_w, if_neg (by omega)]; exact t1) (k1.fr (fun i _ _ => by subst e6; rw [sI_w, if_neg (by omega)])) hdl) ?_
      subst e6; rw [sI_w, if_pos ⟨rfl, rfl⟩, hwx]
    have stay : ¬ ((o = 19 ∧ ¬ tpV (jS r) 0 = 0) ∨ (o = 20 ∧ tpV (jS r) 0 = 0)) → Q s1 := fun hc => by
      have H := H c
      rw [if_neg hc] at H
      exact H s1 (F1.mono (fun a i h => by unfold dStk; omega)) (hF.stk (fun a i h => F1.1 _ _ (by omega)) t1 k1 hdl) ((F1.1 _ _ (by omega)).trans hpl)
    intro P18 hP18
    refine ⟨fun h0 => hP18 _ ?_, fun h0 => hP18 _ ?_⟩
    · intro P29 hP29
      refine ⟨fun n19 => hP29 _ ⟨fun hz => absurd rfl hz, fun _ => go (Or.inr ⟨by omega, h0⟩)⟩, fun h19 => hP29 _ ⟨fun _ => stay (fun hh => ?_), fun hz => absurd hz (by decide)⟩⟩
      rcases hh with ⟨_, hh⟩ | ⟨hh, _⟩
      · exact hh h0
      · omega
    · intro P29 hP29
      refine ⟨fun n19 => hP29 _ ⟨fun _ => stay (fun hh => ?_), fun hz => absurd hz (by decide)⟩, fun h19 => hP29 _ ⟨fun hz => absurd rfl hz, fun _ => go (Or.inl ⟨h19, h0⟩)⟩⟩
      rcases hh with ⟨hh, _⟩ | ⟨_, hh⟩
      · exact n19 hh
      · exact h0 hh
end

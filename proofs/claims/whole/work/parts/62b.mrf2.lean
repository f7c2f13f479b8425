section
variable {s : yS} {l : List Fn} {r : Fr} {fs : List Fr} {R : List (Nat × Nat)}
def raM (s0 : yS) (o : Option (List Fr)) (c : Int32) (Q : yS → Prop) : Prop :=
  (∀ fs', o = some fs' → ∀ s', frM dSm s0 s' → mFs s' fs' → sI s' 139 111 = nI fs'.length → Q s') ∧ (o = none → ∀ s', frM (fun a i => dSm a i ∨ (a = 139 ∧ (i = 90 ∨ i = 91))) s0 s' → sI s' 139 90 = 1 → sI s' 139 91 = c → sI s' 139 111 = 0 → Q s')
theorem k_raiseR {s0 : yS} {q n : Nat} {c : Int32} {Q : yS → Prop} (hok : pgOK l) (hq : q ≤ 1) (F0 : frM dSm s0 s) (h112 : sI s 139 112 = nI q) (hp : pgM s q l) (hF : mFs s (r :: fs)) (h111 : sI s 139 111 = nI (fs.length + 1)) (hw : okW l n r) (hc : okCs l n (jF r) fs) (hlen : fs.length + 1 ≤ 40) (H : raM s0 (rsd l c (r :: fs)) c Q) : W_X12_raise s c Q :=
  k_raise hok hq h112 hp hF h111 hw hc hlen (fun fs' hh s' F' c' n' => H.1 fs' hh s' (F0.trans F') c' n') (fun hh s' F' a b c => H.2 hh s' ((F0.mono (fun a i h => Or.inl h)).trans F') a b c)
theorem mFs.tp (h : mFs s (r :: fs)) (h111 : sI s 139 111 = nI (fs.length + 1)) : mTp s fs.length (jS r) := ⟨h111, h.1.2.2.1, h.1.2.2.2.2.1⟩
theorem k_under {K d : Nat} {st : List Vl} {Q : Int32 → Prop} (hK : K < 40) (hl : st.length ≤ 16) (h : mTp s K st) (hd : d < st.length) (H : Q (tpV st d)) : W_X12_under s (nI d) Q := by
  obtain ⟨h1, h2, h3⟩ := h
  have inK : vp_in (nI K) 40 := nI_inU (by omega) (by omega)
  unfold W_X12_under
  rw [h1, nI_p (by omega), Nat.add_sub_cancel, nI_ix (n := K) (by omega), h2, nI_mul, nI_addU, nI_p (by omega), nI_sub (by omega), nI_ix (n := 16 * K + st.length - 1 - d) (by omega), show 16 * K + st.length - 1 - d = 16 * K + (st.length - 1 - d) by omega, h3 d hd]
  exact ⟨inK, nI_inU (by omega) (by omega), H⟩
/-- what an op of the reference leaves: the frame, and where -/
def plR (s0 : yS) (fs : List Fr) (q : Fr) (Q : yS → Prop) : Prop := ∀ s', frM dSm s0 s' → mFs s' (q :: fs) → sI s' 139 111 = nI (fs.length + 1) → Q s'
/-- going on, behind stack moves -/
theorem k_go1 {s0 : yS} {st' : List Vl} {Q : yS → Prop} (hK : fs.length < 40) (hF : mFs s0 (r :: fs)) (F : frM (fun a i => (a = 213 ∧ i = fs.length) ∨ (a = 215 ∧ 16 * fs.length ≤ i)) s0 s) (ht : mTp s fs.length st') (h16 : st'.length ≤ 16) (H : plR s0 fs (jF r, jP r + 1, st', jL r) Q) : W_X12_goOn s Q := by
  have h2 : sI s 212 fs.length = nI (jP r) := (F.1 _ _ (by omega)).trans hF.1.2.1
  refine k_goOn hK ht.1 h2 (fun s' F' p' => ?_)
  have := hF.stk (s' := s') (st' := st') (pl' := jP r + 1) (fun a i h _ => by rw [F'.1 _ _ (by omega), F.1 _ _ (by omega)]) ⟨(F'.1 _ _ (by omega)).trans ht.1, (F'.1 _ _ (by omega)).trans ht.2.1, ht.2.2.fr (fun i _ _ => F'.1 _ _ (by omega))⟩ p' h16
  exact H s' ((F.mono (fun a i h => by unfold dSm; omega)).trans (F'.mono (fun a i h => by unfold dSm; omega))) this.1 this.2
set_option maxHeartbeats 1000000 in
theorem k_move {o : Nat} {w : Int32} {Q : yS → Prop} (ho : o ≤ 5) (hF : mFs s (r :: fs)) (h111 : sI s 139 111 = nI (fs.length + 1)) (hK : fs.length < 40) (hL : o = 4 ∨ o = 5 → ∃ k, k < 12 ∧ w = nI k) (hn1 : o = 1 ∨ o = 2 ∨ o = 5 → 1 ≤ (jS r).length) (hn3 : o = 3 → 2 ≤ (jS r).length) (hn0 : o = 0 ∨ o = 2 ∨ o = 4 → (jS r).length < 16)
    (H : plR s fs (jF r, jP r + 1, (if o = 0 then (false, w) :: jS r else if o = 1 then (jS r).drop 1 else if o = 2 then (jS r).getD 0 v0 :: jS r else if o = 3 then (jS r).getD 1 v0 :: (jS r).getD 0 v0 :: (jS r).drop 2 else if o = 4 then (rbit (fnA l (jF r)) (ix w), jL r (ix w)) :: jS r else (jS r).drop 1), (if o = 5 then upF (jL r) (ix w) (tpV (jS r) 0) else jL r)) Q) : W_X12_move s (nI o) w (fun s3 => W_X12_goOn s3 (fun s4 => Q s4)) := by
  have ht := hF.tp h111
  obtain ⟨⟨f1, f2, f3, f4, f5, f6⟩, fw⟩ := id hF
  have dr0 : (jS r).drop 0 = jS r := List.drop_zero
  have cx : ∀ k, k ≤ 29 → (nI o = nI k ↔ o = k) := fun k hk => nI_inj (by omega) (by omega)
  unfold W_X12_move
  rw [h111, nI_p (by omega), Nat.add_sub_cancel, nI_0U, nI_1U, cx 0 (by omega), cx 1 (by omega), cx 2 (by omega), cx 3 (by omega), cx 4 (by omega), cx 5 (by omega)]
  refine ⟨fun n0 => ⟨fun n1 => ⟨fun n2 => ⟨fun n3 => ⟨fun n4 => ⟨fun n5 => by omega, fun h5 => ?_⟩, fun h4 => ?_⟩, fun h3 => ?_⟩, fun h2 => ?_⟩, fun h1 => ?_⟩, fun h0 => ?_⟩
  · subst h5
    obtain ⟨k, hk, ek⟩ := hL (Or.inr rfl)
    have hl1 := hn1 (by omega)
    refine k_pop1 (d := 0) (e := 1) (st := jS r) rfl hK f4 (by rw [dr0]; exact ht) (by omega) (fun s2 F2 t2 => ?_)
    rw [nI_mul, ek, nI_addU, nI_ix (n := 12 * fs.length + k) (by omega)]
    refine ⟨nI_inU (by omega) (by omega), ?_⟩
    intro s4 e4
    have n4 : ∀ a i, ¬ (a = 214 ∧ i = 12 * fs.length + k) → sI s4 a i = sI s2 a i := fun a i h => by subst e4; rw [sI_w, if_neg h]
    have h2 : sI s4 212 fs.length = nI (jP r) := by rw [n4 _ _ (by omega), F2.1 _ _ (by omega)]; exact f2
    refine k_goOn hK ((n4 _ _ (by omega)).trans t2.1) h2 (fun s' F' p' => ?_)
    refine H s' ?_ ⟨⟨?_, p', ?_, ?_, ?_, fun j hj => ?_⟩, ?_⟩ ?_
    · have q1 : frM dSm s s4 := by subst e4; exact (F2.mono (fun a i h => by unfold dSm; omega)).wI (by unfold dSm; omega)
      exact q1.trans (F'.mono (fun a i h => by unfold dSm; omega))
    · rw [F'.1 _ _ (by omega), n4 _ _ (by omega), F2.1 _ _ (by omega)]; exact f1
    · rw [F'.1 _ _ (by omega), n4 _ _ (by omega)]; exact t2.2.1
    · show ((jS r).drop 1).length ≤ 16
      rw [List.length_drop]; omega
    · exact t2.2.2.fr (fun i _ _ => by rw [F'.1 _ _ (by omega), n4 _ _ (by omega)])
    · show sI s' 214 (12 * fs.length + j) = upF (jL r) (ix w) (tpV (jS r) 0) j
      rw [ek, nI_ix (by omega)]
      by_cases c : j = k
      · subst c; rw [upF_at, F'.1 _ _ (by omega)]; subst e4; rw [sI_w, if_pos ⟨rfl, rfl⟩]
      · rw [upF_ne c, F'.1 _ _ (by omega), n4 _ _ (by omega), F2.1 _ _ (by omega)]; exact f6 j hj
    · exact fw.fr (fun a i ha => by rw [F'.1 _ _ (by omega), n4 _ _ (by omega), F2.1 _ _ (by omega)])
    · rw [F'.1 _ _ (by omega), n4 _ _ (by omega)]; exact t2.1
  · subst h4
    obtain ⟨k, hk, ek⟩ := hL (Or.inl rfl)
    have h16 := hn0 (by omega)
    rw [nI_mul, ek, nI_addU, nI_ix (n := 12 * fs.length + k) (by omega), f6 k hk]
    rw [ek, nI_ix (by omega)] at H
    refine ⟨nI_inU (by omega) (by omega), k_push1 (y := (rbit (fnA l (jF r)) k, jL r k)) hK h16 ht (fun s' F' t' => k_go1 hK hF (F'.mono (fun a i h => by omega)) t' (by rw [List.length_cons]; omega) H)⟩
  · subst h3
    have hl2 := hn3 rfl
    have hdl : ((jS r).drop 2).length + 2 ≤ 16 := by rw [List.length_drop]; omega
    refine k_pop1 (d := 0) (e := 1) (st := jS r) rfl hK f4 (by rw [dr0]; exact ht) (by omega) (fun s1 F1 t1 => ?_)
    refine k_pop1 (d := 1) (e := 2) (st := jS r) rfl hK f4 t1 (by omega) (fun s2 F2 t2 => ?_)
    refine k_push1 (y := (jS r).getD 0 v0) hK (by omega) t2 (fun s3 F3 t3 => ?_)
    refine k_push1 (y := (jS r).getD 1 v0) hK (by rw [List.length_cons]; omega) t3 (fun s' F' t' => ?_)
    refine k_go1 hK hF ?_ t' (by rw [List.length_cons, List.length_cons]; omega) H
    exact (((F1.mono (fun a i h => by omega)).trans (F2.mono (fun a i h => by omega))).trans (F3.mono (fun a i h => by omega))).trans (F'.mono (fun a i h => by omega))
  · subst h2
    have hl1 := hn1 (by omega)
    have h16 := hn0 (by omega)
    refine k_under (d := 0) (st := jS r) hK f4 ht (by omega) ?_
    refine k_push1 (y := (jS r).getD 0 v0) hK h16 ht (fun s' F' t' => k_go1 hK hF (F'.mono (fun a i h => by omega)) t' (by rw [List.length_cons]; omega) H)
  · subst h1
    have hl1 := hn1 (by omega)
    refine k_pop1 (d := 0) (e := 1) (st := jS r) rfl hK f4 (by rw [dr0]; exact ht) (by omega) (fun s1 F1 t1 => k_go1 hK hF (F1.mono (fun a i h => by omega)) t1 (by rw [List.length_drop]; omega) H)
  · subst h0
    have h16 := hn0 (by omega)
    refine k_push1 (y := (false, w)) hK h16 ht (fun s' F' t' => k_go1 hK hF (F'.mono (fun a i h => by omega)) t' (by rw [List.length_cons]; omega) H)
theorem k_worked {o : Nat} {a b' : Int32} {Q : Int32 → Prop} (ho : 6 ≤ o ∧ o ≤ 17) (hd : o = 9 ∨ o = 10 → ¬ b' = 0) (H : Q (wk o a b')) : W_X12_worked s (nI o) a b' Q := by
  unfold W_X12_worked
  rw [nI_toIntU (n := o) (by omega)]
  refine ⟨fun c => ?_, fun c => ?_, fun c => ?_, fun c => ?_, fun c => ?_, fun c => ?_, fun c => ?_, fun c => ?_, fun c => ?_, fun c => ?_, fun c => ?_, fun c => ?_⟩
  · obtain rfl : o = 17 := by omega
    have H : Q (if a = b' then 1 else 0) := H
    exact ⟨fun h => by rw [if_neg h] at H; exact H, fun h => by rw [if_pos h] at H; exact H⟩
  · obtain rfl : o = 6 := by omega
    exact H
  · obtain rfl : o = 7 := by omega
    exact H
  · obtain rfl : o = 8 := by omega
    exact H
  · obtain rfl : o = 9 := by omega
    have H : Q (a / b') := H
    exact ⟨fun h => ⟨hd (Or.inl rfl), H⟩, fun h => by rw [h, i_div1] at H; exact H⟩
  · obtain rfl : o = 10 := by omega
    have H : Q (a - a / b' * b') := H
    refine ⟨fun h => ⟨hd (Or.inr rfl), H⟩, fun h => ?_⟩
    rw [h, i_div1, Int32.neg_mul_neg, Int32.mul_one, Int32.sub_self] at H
    exact H
  · obtain rfl : o = 11 := by omega
    exact H
  · obtain rfl : o = 12 := by omega
    exact H
  · obtain rfl : o = 13 := by omega
    exact H
  · obtain rfl : o = 14 := by omega
    exact H
  · obtain rfl : o = 15 := by omega
    exact H
  · obtain rfl : o = 16 := by omega
    have H : Q (if b' ≤ a then 0 else 1) := H
    exact ⟨fun h => by rw [if_pos h] at H; exact H, fun h => by rw [if_neg h] at H; exact H⟩
theorem k_size {w : Int32} {Q : yS → Prop} (hF : mFs s (r :: fs)) (h111 : sI s 139 111 = nI (fs.length + 1)) (hK : fs.length < 40) (hRn : R.length ≤ 20000) (hrow : ∀ k, k ≤ R.length → sI s 210 k = nI (rwF R k).2) (hl1 : 1 ≤ (jS r).length) (ho : ∃ k, k ≤ R.length ∧ tpV (jS r) 0 = nI k)
    (H : plR s fs (jF r, jP r + 1, (false, nI (rwF R (ix (tpV (jS r) 0))).2) :: (jS r).drop 1, jL r) Q) : W_X12_move s (nI 24) w (fun s3 => W_X12_goOn s3 (fun s4 => Q s4)) := by
  have ht := hF.tp h111
  obtain ⟨⟨f1, f2, f3, f4, f5, f6⟩, fw⟩ := id hF
  have dr0 : (jS r).drop 0 = jS r := List.drop_zero
  obtain ⟨k, hk, ek⟩ := ho
  unfold W_X12_move
  refine ⟨fun _ => ⟨fun _ => ⟨fun _ => ⟨fun _ => ⟨fun _ => ⟨fun _ => ?_, fun h => absurd h (by decide)⟩, fun h => absurd h (by decide)⟩, fun h => absurd h (by decide)⟩, fun h => absurd h (by decide)⟩, fun h => absurd h (by decide)⟩, fun h => absurd h (by decide)⟩
  refine k_pop1 (d := 0) (e := 1) (st := jS r) rfl hK f4 (by rw [dr0]; exact ht) (by omega) (fun s2 F2 t2 => ?_)
  rw [ek, nI_ix (by omega), F2.1 210 _ (by omega), hrow k hk]
  rw [ek, nI_ix (by omega)] at H
  have hdl : ((jS r).drop 1).length < 16 := by rw [List.length_drop]; omega
  refine ⟨nI_inU (by omega) (by omega), k_push1 (y := (false, nI (rwF R k).2)) hK hdl t2 (fun s' F' t' => k_go1 hK hF ((F2.mono (fun a i h => by omega)).trans (F'.mono (fun a i h => by omega))) t' (by rw [List.length_cons]; omega) H)⟩
end

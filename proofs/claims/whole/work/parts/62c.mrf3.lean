section
variable {s : yS} {l : List Fn} {r : Fr} {fs : List Fr} {R : List (Nat × Nat)} {q n : Nat}
/-- rows, at the reference -/
def rwMr (s : yS) (R : List (Nat × Nat)) : Prop := sI s 139 105 = nI R.length ∧ (∀ k, k ≤ R.length → sI s 210 k = nI (rwF R k).2) ∧ ∀ k, 1 ≤ k → k ≤ R.length → sI s 209 k = nI (rwF R k).1
theorem rwF_ap {x : Nat × Nat} {k : Nat} (hk : k ≤ R.length) : rwF (R ++ [x]) k = rwF R k := by
  unfold rwF
  by_cases c : k = 0
  · rw [if_pos c, if_pos c]
  · rw [if_neg c, if_neg c, List.getD_eq_getElem?_getD, List.getD_eq_getElem?_getD, List.getElem?_append_left (by omega)]
theorem rwF_new {x : Nat × Nat} : rwF (R ++ [x]) (R.length + 1) = x := by
  unfold rwF
  rw [if_neg (by omega), Nat.add_sub_cancel, List.getD_eq_getElem?_getD, List.getElem?_append_right (Nat.le_refl _), Nat.sub_self]; rfl
set_option maxHeartbeats 1000000 in
theorem k_newRow {u : Nat} {Q : yS → Prop} (hok : pgOK l) (hq : q ≤ 1) (h112 : sI s 139 112 = nI q) (hp : pgM s q l) (hF : mFs s (r :: fs)) (h111 : sI s 139 111 = nI (fs.length + 1)) (hK : fs.length < 40) (hw : okW l n r) (hc : okCs l n (jF r) fs) (hu : u ≤ 4096) (h95 : sI s 139 95 = nI u) (hR : rwMr s R) (hRn : R.length < 20000) (hn : 1 ≤ (jS r).length)
    (H1 : ¬ (tpV (jS r) 0 < 0 ∨ nI 256 < tpV (jS r) 0 ∨ 4096 < u + ix (tpV (jS r) 0)) → ∀ s', frM (fun a i => dSm a i ∨ (a = 139 ∧ (i = 95 ∨ i = 105)) ∨ (208 ≤ a ∧ a ≤ 210)) s s' → (∀ a, sI s' 208 a = if u ≤ a ∧ a < u + ix (tpV (jS r) 0) then 0 else sI s 208 a) → sI s' 139 95 = nI (u + ix (tpV (jS r) 0)) → rwMr s' (R ++ [(u, ix (tpV (jS r) 0))]) → mFs s' ((jF r, jP r + 1, (true, nI (R.length + 1)) :: (jS r).drop 1, jL r) :: fs) → sI s' 139 111 = nI (fs.length + 1) → Q s')
    (H0 : (tpV (jS r) 0 < 0 ∨ nI 256 < tpV (jS r) 0 ∨ 4096 < u + ix (tpV (jS r) 0)) → raM s (rsd l (nI 3) ((jF r, jP r, (jS r).drop 1, jL r) :: fs)) (nI 3) Q) : W_X12_newRow s Q := by
  have ht := hF.tp h111
  obtain ⟨⟨f1, f2, f3, f4, f5, f6⟩, fw⟩ := id hF
  have dr0 : (jS r).drop 0 = jS r := List.drop_zero
  have hdl : ((jS r).drop 1).length < 16 := by rw [List.length_drop]; omega
  unfold W_X12_newRow
  refine k_pop1 (d := 0) (e := 1) (st := jS r) rfl hK f4 (by rw [dr0]; exact ht) (by omega) (fun s2 F2 t2 => ?_)
  have F2s : frM dSm s s2 := F2.mono (fun a i h => by unfold dSm; omega)
  have ra : (tpV (jS r) 0 < 0 ∨ nI 256 < tpV (jS r) 0 ∨ 4096 < u + ix (tpV (jS r) 0)) → W_X12_raise s2 (nI 3) (fun s3 => Q s3) := fun hcnd => by
    have hF2 := hF.stk (s' := s2) (st' := (jS r).drop 1) (pl' := jP r) (fun a i h _ => F2.1 _ _ (by omega)) t2 ((F2.1 _ _ (by omega)).trans f2) (by omega)
    exact k_raiseR (r := (jF r, jP r, (jS r).drop 1, jL r)) hok hq F2s ((F2.1 _ _ (by omega)).trans h112) (hp.fr (fun a i ha => F2.1 _ _ (by omega))) hF2.1 hF2.2 hw hc (by omega) (H0 hcnd)
  intro P28 hP28
  refine ⟨fun h => hP28 (ra (Or.inl h)), fun hge => ⟨fun h => hP28 (ra (Or.inr (Or.inl h))), fun h256 => ?_⟩⟩
  obtain ⟨w, ew, hw31⟩ : ∃ w, tpV (jS r) 0 = nI w ∧ w < 2147483648 := by
    have h := hge
    rw [Int32.lt_iff_toInt_lt, show (0 : Int32).toInt = 0 from rfl] at h
    exact nI_ofU (by omega)
  rw [ew] at h256 ra H1 hge ⊢
  rw [nI_ix hw31] at ra H1
  have h256 : w ≤ 256 := by
    apply Decidable.byContradiction
    intro hh; exact h256 ((nI_ltU (by omega) (by omega)).mpr (by omega))
  have b2 : sI s2 139 95 = nI u := (F2.1 _ _ (by omega)).trans h95
  have c2 : sI s2 139 105 = nI R.length := (F2.1 _ _ (by omega)).trans hR.1
  rw [b2, c2, nI_addU, nI_leU (by omega) (by omega), nI_s]
  refine ⟨fun hle => ?_, fun hgt => hP28 (ra (Or.inr (Or.inr (by omega))))⟩
  have H1 := H1 (by
    rintro (h | h | h)
    · exact hge h
    · rw [nI_ltU (by omega) (by omega)] at h; omega
    · omega)
  intro s4 e4
  have c4 : sI s4 139 105 = nI (R.length + 1) := by subst e4; rw [sI_w, if_pos ⟨rfl, rfl⟩]
  have b4 : sI s4 139 95 = nI u := by subst e4; rw [sI_w, if_neg (by omega)]; exact b2
  rw [c4, b4, nI_ix (n := R.length + 1) (by omega)]
  refine ⟨nI_inU (by omega) (by omega), ?_⟩
  intro s6 e6
  have c6 : sI s6 139 105 = nI (R.length + 1) := by subst e6; rw [sI_w, if_neg (by omega)]; exact c4
  rw [c6, nI_ix (n := R.length + 1) (by omega)]
  refine ⟨nI_inU (by omega) (by omega), ?_⟩
  intro s8 e8
  have n8 : ∀ a i, ¬ (a = 139 ∧ i = 105) → ¬ ((a = 209 ∨ a = 210) ∧ i = R.length + 1) → ¬ (a = 213 ∧ i = fs.length) → sI s8 a i = sI s a i := fun a i h1 h2 h3 => by
    subst e8; rw [sI_w, if_neg (by omega)]; subst e6; rw [sI_w, if_neg (by omega)]; subst e4; rw [sI_w, if_neg (by omega)]; exact F2.1 _ _ (by omega)
  have F8 : frM (fun a i => (a = 213 ∧ i = fs.length) ∨ (a = 139 ∧ i = 105) ∨ a = 209 ∨ a = 210) s s8 := by
    subst e8; subst e6; subst e4
    exact (((F2.mono (fun a i h => by omega)).wI (by omega)).wI (by omega)).wI (by omega)
  have t8 : mTp s8 fs.length ((jS r).drop 1) := by
    refine ⟨?_, ?_, t2.2.2.fr (fun i _ _ => ?_)⟩
    · rw [n8 _ _ (by omega) (by omega) (by omega)]; exact h111
    · subst e8; rw [sI_w, if_neg (by omega)]; subst e6; rw [sI_w, if_neg (by omega)]; subst e4; rw [sI_w, if_neg (by omega)]; exact t2.2.1
    · rw [n8 _ _ (by omega) (by omega) (by omega), F2.1 _ _ (by omega)]
  have c8 : sI s8 139 105 = nI (R.length + 1) := by subst e8; rw [sI_w, if_neg (by omega)]; exact c6
  have st8 : sI s8 209 (R.length + 1) = nI u := by subst e8; rw [sI_w, if_neg (by omega)]; subst e6; rw [sI_w, if_pos ⟨rfl, rfl⟩]
  have sz8 : sI s8 210 (R.length + 1) = nI w := by subst e8; rw [sI_w, if_pos ⟨rfl, rfl⟩]
  clear e8 e6 e4
  intro P69 hP69
  suffices hL : ∀ (d k : Nat) (t : yS), k + d = w → frM (fun a i => a = 208) s8 t → (∀ a, sI t 208 a = if u ≤ a ∧ a < u + k then 0 else sI s 208 a) → P69 (nI k) t from
    hL w 0 s8 (Nat.zero_add _) frM.rfl' (fun a => by rw [if_neg (by omega), n8 _ _ (by omega) (by omega) (by omega)])
  intro d
  induction d with
  | zero =>
    intro k t hk Ft mt
    obtain rfl : k = w := by omega
    have bt : sI t 139 95 = nI u := by rw [Ft.1 _ _ (by omega), n8 _ _ (by omega) (by omega) (by omega)]; exact h95
    apply hP69
    rw [bt, nI_addU]
    refine ⟨fun _ => ?_, fun hz => absurd ((nI_leU (by omega) (by omega)).mpr (Nat.le_refl _)) hz⟩
    intro s11 e11
    have n11 : ∀ a i, ¬ (a = 139 ∧ i = 95) → sI s11 a i = sI t a i := fun a i h => by subst e11; rw [sI_w, if_neg h]
    have t11 : mTp s11 fs.length ((jS r).drop 1) := ⟨by rw [n11 _ _ (by omega), Ft.1 _ _ (by omega)]; exact t8.1, by rw [n11 _ _ (by omega), Ft.1 _ _ (by omega)]; exact t8.2.1, t8.2.2.fr (fun i _ _ => by rw [n11 _ _ (by omega), Ft.1 _ _ (by omega)])⟩
    rw [n11 139 _ (by omega), Ft.1 139 _ (by omega), c8]
    refine k_push1 (y := (true, nI (R.length + 1))) hK hdl t11 (fun s12 F12 t12 => ?_)
    have kp : ∀ a i, ¬ ((a = 213 ∧ i = fs.length) ∨ (a = 215 ∧ 16 * fs.length ≤ i) ∨ (a = 139 ∧ (i = 95 ∨ i = 105)) ∨ (208 ≤ a ∧ a ≤ 210)) → sI s12 a i = sI s a i := fun a i h => by rw [F12.1 _ _ (by omega), n11 _ _ (by omega), Ft.1 _ _ (by omega), n8 _ _ (by omega) (by omega) (by omega)]
    have up : ∀ a i, ¬ ((a = 213 ∧ i = fs.length) ∨ a = 215 ∨ (a = 139 ∧ i = 95) ∨ a = 208) → sI s12 a i = sI s8 a i := fun a i h => by rw [F12.1 _ _ (by omega), n11 _ _ (by omega), Ft.1 _ _ (by omega)]
    have h2 : sI s12 212 fs.length = nI (jP r) := (kp _ _ (by omega)).trans f2
    refine k_goOn hK t12.1 h2 (fun s' F' p' => ?_)
    have hfin := hF.stk (s' := s') (st' := (true, nI (R.length + 1)) :: (jS r).drop 1) (pl' := jP r + 1) (fun a i h _ => by rw [F'.1 _ _ (by omega), kp _ _ (by omega)]) ⟨(F'.1 _ _ (by omega)).trans t12.1, (F'.1 _ _ (by omega)).trans t12.2.1, t12.2.2.fr (fun i _ _ => F'.1 _ _ (by omega))⟩ p' (by rw [List.length_cons]; omega)
    refine H1 s' ?_ (fun a => ?_) ?_ ⟨?_, fun j hj => ?_, fun j hj1 hj => ?_⟩ hfin.1 hfin.2
    · have q1 : frM (fun a i => dSm a i ∨ (a = 139 ∧ (i = 95 ∨ i = 105)) ∨ (208 ≤ a ∧ a ≤ 210)) s s8 := F8.mono (fun a i h => by unfold dSm; omega)
      have q2 : frM (fun a i => dSm a i ∨ (a = 139 ∧ (i = 95 ∨ i = 105)) ∨ (208 ≤ a ∧ a ≤ 210)) s8 s11 := by subst e11; exact (Ft.mono (fun a i h => by omega)).wI (by omega)
      exact ((q1.trans q2).trans (F12.mono (fun a i h => by unfold dSm; omega))).trans (F'.mono (fun a i h => by unfold dSm; omega))
    · rw [F'.1 _ _ (by omega), F12.1 _ _ (by omega), n11 _ _ (by omega)]; exact mt a
    · rw [F'.1 _ _ (by omega), F12.1 _ _ (by omega)]; subst e11; rw [sI_w, if_pos ⟨rfl, rfl⟩]
    · rw [F'.1 _ _ (by omega), up _ _ (by omega), c8, List.length_append]; rfl
    · have hj : j ≤ (R ++ [(u, k)]).length := hj
      rw [List.length_append] at hj
      have hj : j ≤ R.length + 1 := hj
      rw [F'.1 _ _ (by omega), up _ _ (by omega)]
      by_cases c : j = R.length + 1
      · subst c; rw [rwF_new]; exact sz8
      · rw [rwF_ap (by omega), n8 _ _ (by omega) (by omega) (by omega)]; exact hR.2.1 j (by omega)
    · have hj : j ≤ (R ++ [(u, k)]).length := hj
      rw [List.length_append] at hj
      have hj : j ≤ R.length + 1 := hj
      rw [F'.1 _ _ (by omega), up _ _ (by omega)]
      by_cases c : j = R.length + 1
      · subst c; rw [rwF_new]; exact st8
      · rw [rwF_ap (by omega), n8 _ _ (by omega) (by omega) (by omega)]; exact hR.2.2 j hj1 (by omega)
  | succ d ih =>
    intro k t hk Ft mt
    have bt : sI t 139 95 = nI u := by rw [Ft.1 _ _ (by omega), n8 _ _ (by omega) (by omega) (by omega)]; exact h95
    apply hP69
    rw [bt]
    refine ⟨fun hz => absurd ((nI_leU (by omega) (by omega)).mp hz) (by omega), fun _ => ?_⟩
    rw [nI_addU, nI_ix (n := u + k) (by omega)]
    refine ⟨nI_inU (by omega) (by omega), ?_⟩
    intro s15 e15 x16 e16
    subst e16; rw [nI_s]
    refine ih (k + 1) s15 (by omega) (by subst e15; exact Ft.wI rfl) (fun a => ?_)
    subst e15
    by_cases c : a = u + k
    · subst c; rw [sI_w, if_pos ⟨rfl, rfl⟩, if_pos (by omega)]
    · rw [sI_w, if_neg (by omega), mt a]
      by_cases c2 : u ≤ a ∧ a < u + k
      · rw [if_pos c2, if_pos (by omega)]
      · rw [if_neg c2, if_neg (by omega)]
set_option maxHeartbeats 1000000 in
theorem k_reach {v : Nat} {u : Nat} {mm : Nat → Int32} {Q : yS → Prop} (hv : v ≤ 1) (hok : pgOK l) (hq : q ≤ 1) (h112 : sI s 139 112 = nI q) (hp : pgM s q l) (hF : mFs s (r :: fs)) (h111 : sI s 139 111 = nI (fs.length + 1)) (hK : fs.length < 40) (hw : okW l n r) (hc : okCs l n (jF r) fs) (hm : okM R u) (hR : rwMr s R) (hRn : R.length ≤ 20000) (hmem : ∀ a, a < u → sI s 208 a = mm a) (hn : v + 2 ≤ (jS r).length) (ho : ∃ k, k ≤ R.length ∧ tpV (jS r) (v + 1) = nI k)
    (HG : v = 0 → ¬ (tpV (jS r) 0 < 0 ∨ ¬ tpV (jS r) 0 < nI (rwF R (ix (tpV (jS r) 1))).2) → plR s fs (jF r, jP r + 1, (false, mm ((rwF R (ix (tpV (jS r) 1))).1 + ix (tpV (jS r) 0))) :: (jS r).drop 2, jL r) Q)
    (HG0 : v = 0 → (tpV (jS r) 0 < 0 ∨ ¬ tpV (jS r) 0 < nI (rwF R (ix (tpV (jS r) 1))).2) → raM s (rsd l (nI 2) ((jF r, jP r, (jS r).drop 2, jL r) :: fs)) (nI 2) Q)
    (HP : v = 1 → ¬ (tpV (jS r) 1 < 0 ∨ ¬ tpV (jS r) 1 < nI (rwF R (ix (tpV (jS r) 2))).2) → ∀ s', frM (fun a i => dSm a i ∨ a = 208) s s' → (∀ a, sI s' 208 a = if a = (rwF R (ix (tpV (jS r) 2))).1 + ix (tpV (jS r) 1) then tpV (jS r) 0 else sI s 208 a) → mFs s' ((jF r, jP r + 1, (jS r).drop 3, jL r) :: fs) → sI s' 139 111 = nI (fs.length + 1) → Q s')
    (HP0 : v = 1 → (tpV (jS r) 1 < 0 ∨ ¬ tpV (jS r) 1 < nI (rwF R (ix (tpV (jS r) 2))).2) → raM s (rsd l (nI 2) ((jF r, jP r, (jS r).drop 3, jL r) :: fs)) (nI 2) Q) : W_X12_reach s (nI v) Q := by
  have ht := hF.tp h111
  obtain ⟨⟨f1, f2, f3, f4, f5, f6⟩, fw⟩ := id hF
  have dr0 : (jS r).drop 0 = jS r := List.drop_zero
  have hu := hm.1
  obtain ⟨k, hk, ek⟩ := ho
  have hrk := rw_ok hm hk
  -- an index in a row
  have nneg : ∀ {x : Int32} {m : Nat}, m ≤ 256 → ¬ (x < 0 ∨ ¬ x < nI m) → x = nI (ix x) ∧ ix x < m := by
    intro x m hm2 hx
    have h1 : ¬ x < 0 := fun h => hx (Or.inl h)
    have h2 : x < nI m := Decidable.byContradiction (fun h => hx (Or.inr h))
    rw [Int32.lt_iff_toInt_lt, show (0 : Int32).toInt = 0 from rfl] at h1
    rw [Int32.lt_iff_toInt_lt, nI_toIntU (by omega)] at h2
    obtain ⟨k, hk, hk2⟩ := nI_ofU (x := x) (by omega)
    rw [hk] at h2 ⊢
    rw [nI_toIntU hk2] at h2
    rw [nI_ix hk2]
    exact ⟨rfl, by omega⟩
  unfold W_X12_reach
  intro P12 hP12
  have v0' : nI v = 0 ↔ v = 0 := nI_inj (b := 0) (by omega) (by omega)
  rw [v0'] at hP12 ⊢
  have hv01 : v = 0 ∨ v = 1 := by omega
  rcases hv01 with hv0 | hv1
  · subst hv0
    refine ⟨fun _ => ?_, fun h => absurd rfl h⟩
    apply hP12
    refine k_pop1 (d := 0) (e := 1) (st := jS r) rfl hK f4 (by rw [dr0]; exact ht) (by omega) (fun s1 F1 t1 => ?_)
    refine k_pop1 (d := 1) (e := 2) (st := jS r) rfl hK f4 t1 (by omega) (fun s2 F2 t2 => ?_)
    have F2' : frM (fun a i => a = 213 ∧ i = fs.length) s s2 := F1.trans F2
    have F2s : frM dSm s s2 := F2'.mono (fun a i h => by unfold dSm; omega)
    have hdl : ((jS r).drop 2).length + 2 ≤ 16 := by rw [List.length_drop]; omega
    have ra : (tpV (jS r) 0 < 0 ∨ ¬ tpV (jS r) 0 < nI (rwF R (ix (tpV (jS r) 1))).2) → W_X12_raise s2 (nI 2) (fun s7 => Q s7) := fun hcnd => by
      have hF2 := hF.stk (s' := s2) (st' := (jS r).drop 2) (pl' := jP r) (fun a i h _ => F2'.1 _ _ (by omega)) t2 ((F2'.1 _ _ (by omega)).trans f2) (by omega)
      exact k_raiseR (r := (jF r, jP r, (jS r).drop 2, jL r)) hok hq F2s ((F2'.1 _ _ (by omega)).trans h112) (hp.fr (fun a i ha => F2'.1 _ _ (by omega))) hF2.1 hF2.2 hw hc (by omega) (HG0 rfl hcnd)
    have HG := HG rfl
    rw [show 0 + 1 = 1 from rfl] at ek
    rw [ek, nI_ix (by omega)] at ra HG
    intro P39 hP39
    rw [ek, nI_ix (n := k) (by omega), F2'.1 210 _ (by omega), hR.2.1 k hk, F2'.1 209 _ (by omega)]
    have in2 : vp_in (nI k) 20100 := nI_inU (by omega) (by omega)
    refine ⟨fun h => hP39 (ra (Or.inl h)), fun hge => ⟨in2, fun hlt => ?_, fun h => hP39 (ra (Or.inr h))⟩⟩
    have hx : ¬ (tpV (jS r) 0 < 0 ∨ ¬ tpV (jS r) 0 < nI (rwF R k).2) := by
      rintro (h | h)
      · exact hge h
      · exact h hlt
    obtain ⟨e1, e2⟩ := nneg hrk.2 hx
    have hk1 : 1 ≤ k := by
      apply Decidable.byContradiction
      intro h
      have : k = 0 := by omega
      subst this
      have : (rwF R 0).2 = 0 := by unfold rwF; rw [if_pos rfl]
      omega
    intro P85 hP85
    refine ⟨fun _ => ⟨in2, ?_⟩, fun h => absurd rfl h⟩
    rw [hR.2.2 k hk1 hk]
    have HG := HG hx
    generalize ix (tpV (jS r) 0) = j at *
    rw [e1, nI_addU, nI_ix (n := (rwF R k).1 + j) (by omega), F2'.1 208 _ (by omega), hmem _ (by omega)]
    refine ⟨nI_inU (by omega) (by omega), k_push1 (y := (false, mm ((rwF R k).1 + j))) hK (by omega) t2 (fun s' F' t' => hP85 _ (k_go1 hK hF ((F2'.mono (fun a i h => by omega)).trans (F'.mono (fun a i h => by omega))) t' (by rw [List.length_cons]; omega) HG))⟩
  · subst hv1
    refine ⟨fun h => absurd h (by decide), fun _ => ?_⟩
    refine k_pop1 (d := 0) (e := 1) (st := jS r) rfl hK f4 (by rw [dr0]; exact ht) (by omega) (fun s0 F0 t0 => ?_)
    apply hP12
    refine k_pop1 (d := 1) (e := 2) (st := jS r) rfl hK f4 t0 (by omega) (fun s1 F1 t1 => ?_)
    refine k_pop1 (d := 2) (e := 3) (st := jS r) rfl hK f4 t1 (by omega) (fun s2 F2 t2 => ?_)
    have F2' : frM (fun a i => a = 213 ∧ i = fs.length) s s2 := (F0.trans F1).trans F2
    have F2s : frM dSm s s2 := F2'.mono (fun a i h => by unfold dSm; omega)
    have hdl : ((jS r).drop 3).length + 3 ≤ 16 := by rw [List.length_drop]; omega
    have ra : (tpV (jS r) 1 < 0 ∨ ¬ tpV (jS r) 1 < nI (rwF R (ix (tpV (jS r) 2))).2) → W_X12_raise s2 (nI 2) (fun s7 => Q s7) := fun hcnd => by
      have hF2 := hF.stk (s' := s2) (st' := (jS r).drop 3) (pl' := jP r) (fun a i h _ => F2'.1 _ _ (by omega)) t2 ((F2'.1 _ _ (by omega)).trans f2) (by omega)
      exact k_raiseR (r := (jF r, jP r, (jS r).drop 3, jL r)) hok hq F2s ((F2'.1 _ _ (by omega)).trans h112) (hp.fr (fun a i ha => F2'.1 _ _ (by omega))) hF2.1 hF2.2 hw hc (by omega) (HP0 rfl hcnd)
    have HP := HP rfl
    rw [show 1 + 1 = 2 from rfl] at ek
    rw [ek, nI_ix (by omega)] at ra HP
    intro P39 hP39
    rw [ek, nI_ix (n := k) (by omega), F2'.1 210 _ (by omega), hR.2.1 k hk, F2'.1 209 _ (by omega)]
    have in2 : vp_in (nI k) 20100 := nI_inU (by omega) (by omega)
    refine ⟨fun h => hP39 (ra (Or.inl h)), fun hge => ⟨in2, fun hlt => ?_, fun h => hP39 (ra (Or.inr h))⟩⟩
    have hx : ¬ (tpV (jS r) 1 < 0 ∨ ¬ tpV (jS r) 1 < nI (rwF R k).2) := by
      rintro (h | h)
      · exact hge h
      · exact h hlt
    obtain ⟨e1, e2⟩ := nneg hrk.2 hx
    have hk1 : 1 ≤ k := by
      apply Decidable.byContradiction
      intro h
      have : k = 0 := by omega
      subst this
      have : (rwF R 0).2 = 0 := by unfold rwF; rw [if_pos rfl]
      omega
    intro P85 hP85
    refine ⟨fun h => absurd h (by decide), fun _ => ⟨in2, ?_⟩⟩
    rw [hR.2.2 k hk1 hk]
    have HP := HP hx
    generalize ix (tpV (jS r) 1) = j at *
    rw [e1, nI_addU, nI_ix (n := (rwF R k).1 + j) (by omega)]
    refine ⟨nI_inU (by omega) (by omega), ?_⟩
    intro s16 e16
    apply hP85
    have n16 : ∀ a i, ¬ (a = 208 ∧ i = (rwF R k).1 + j) → sI s16 a i = sI s2 a i := fun a i h => by subst e16; rw [sI_w, if_neg h]
    have h2 : sI s16 212 fs.length = nI (jP r) := by rw [n16 _ _ (by omega), F2'.1 _ _ (by omega)]; exact f2
    refine k_goOn hK ((n16 _ _ (by omega)).trans t2.1) h2 (fun s' F' p' => ?_)
    have hfin := hF.stk (s' := s') (st' := (jS r).drop 3) (pl' := jP r + 1) (fun a i h ha => by rw [F'.1 _ _ (by omega), n16 _ _ (by omega), F2'.1 _ _ (by omega)]) ⟨by rw [F'.1 _ _ (by omega), n16 _ _ (by omega)]; exact t2.1, by rw [F'.1 _ _ (by omega), n16 _ _ (by omega)]; exact t2.2.1, t2.2.2.fr (fun i _ _ => by rw [F'.1 _ _ (by omega), n16 _ _ (by omega)])⟩ p' (by omega)
    refine HP s' ?_ (fun a => ?_) hfin.1 hfin.2
    · have q1 : frM (fun a i => dSm a i ∨ a = 208) s s16 := by subst e16; exact (F2s.mono (fun a i h => Or.inl h)).wI (Or.inr rfl)
      exact q1.trans (F'.mono (fun a i h => by unfold dSm; omega))
    · rw [F'.1 _ _ (by omega)]; subst e16
      by_cases c : a = (rwF R k).1 + j
      · rw [if_pos c, sI_w, if_pos ⟨rfl, c⟩]
      · rw [if_neg c, sI_w, if_neg (fun h => c h.2), F2'.1 _ _ (by omega)]
end

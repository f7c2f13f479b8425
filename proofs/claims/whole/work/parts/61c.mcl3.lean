/-! rows as ints -/
theorem bv_nI {n : Nat} (h : n < 2147483648) : (nI n).toBitVec.toNat = n := by
  show (BitVec.ofNat 32 n).toNat = n
  rw [BitVec.toNat_ofNat]; omega
theorem i_nat {x y : Int32} (h : x.toBitVec.toNat = y.toBitVec.toNat) : x = y := Int32.toBitVec_inj.mp (BitVec.eq_of_toNat_eq h)
theorem and511 {f z : Nat} (hf : f ≤ 4096) (hz : z ≤ 256) : nI (f * 512 + z) &&& nI 511 = nI z := by
  apply i_nat
  rw [Int32.toBitVec_and, BitVec.toNat_and, bv_nI (by omega), bv_nI (by omega), bv_nI (by omega), show 511 = 2 ^ 9 - 1 by decide, Nat.and_two_pow_sub_one_eq_mod]
  omega
theorem shr9 {f z : Nat} (hf : f ≤ 4096) (hz : z ≤ 256) : nI (f * 512 + z) >>> (nI 9 &&& 31) = nI f := by
  apply i_nat
  rw [m31 (by omega), Int32.toBitVec_shiftRight, BitVec.sshiftRight_eq', sm32 (by omega)]
  rw [BitVec.sshiftRight_eq_of_msb_false (by
    rw [BitVec.msb_eq_false_iff_two_mul_lt, bv_nI (by omega)]; omega)]
  rw [BitVec.toNat_ushiftRight, bv_nI (by omega), bv_nI (by omega), Nat.shiftRight_eq_div_pow]
  omega
theorem shl9 {f z : Nat} (hf : f ≤ 4096) (hz : z ≤ 256) : (nI f <<< (nI 9 &&& 31)) ||| nI z = nI (f * 512 + z) := by
  apply i_nat
  rw [Int32.toBitVec_or, BitVec.toNat_or, m31 (by omega), Int32.toBitVec_shiftLeft, BitVec.shiftLeft_eq', sm32 (by omega), BitVec.toNat_shiftLeft, bv_nI (by omega), bv_nI (by omega), bv_nI (by omega)]
  have h1 : f <<< 9 = f * 512 := by rw [Nat.shiftLeft_eq]
  have h2 : f <<< 9 % 2 ^ 32 = f <<< 9 := by rw [h1]; omega
  rw [h2, ← Nat.shiftLeft_add_eq_or_of_lt (show z < 2 ^ 9 by omega), h1]
theorem okR6_nxt {ps : PS} {c : Nat} {v f : Nat → Int32} (hwf : wfI ps) (h : okR6 ps f) : okR6 ps (fun k => if k < (pC ps).length then nxt ps c v k (f k) else f k) := by
  intro k hk
  obtain ⟨n, hn, e⟩ := h k hk
  have hm : ((pC ps).map Prod.snd).getD k 0 ≤ 15 := by
    rw [getD_at (by rw [List.length_map]; exact hk), List.getElem_map]
    exact (hwf.2.2.1 _ (List.getElem_mem hk)).2.2
  show ∃ n, n ≤ _ ∧ (if k < (pC ps).length then nxt ps c v k (f k) else f k) = nI n
  rw [if_pos hk]
  unfold nxt
  rw [e]
  cases (pR ps).find? (hit ps c v k) with
  | none => exact ⟨n, hn, rfl⟩
  | some r =>
    show ∃ n', n' ≤ _ ∧ (if rU r = true then (if mostI ps k ≤ nI n then nI n else nI n + 1) else 0) = nI n'
    by_cases c1 : rU r = true
    · rw [if_pos c1]
      unfold mostI
      by_cases c2 : nI (((pC ps).map Prod.snd).getD k 0) ≤ nI n
      · rw [if_pos c2]; exact ⟨n, hn, rfl⟩
      · rw [if_neg c2, nI_s]
        rw [nI_leU (by omega) (by omega)] at c2
        exact ⟨n + 1, by omega, rfl⟩
    · rw [if_neg c1]; exact ⟨0, Nat.zero_le _, rfl⟩
section
variable {s : yS} {g : Nat} {l : List Fn} {R : List (Nat × Nat)} {r : Fr} {fs : List Fr}
theorem rw_ok {u : Nat} (hm : okM R u) {k : Nat} (hk : k ≤ R.length) : (rwF R k).1 + (rwF R k).2 ≤ u ∧ (rwF R k).2 ≤ 256 := by
  unfold rwF
  by_cases c : k = 0
  · rw [if_pos c]; exact ⟨Nat.zero_le _, Nat.zero_le _⟩
  · rw [if_neg c, getD_at (show k - 1 < R.length by omega)]
    exact hm.2 _ (List.getElem_mem _)
theorem cvt_row {u : Nat} {y : Vl} (hm : okM R u) (hn : R.length < 2147483647) (ht : y.1 = true) (ho : okV R.length y.1 y.2) : cvt R y = nI ((rwF R (ix y.2)).1 * 512 + (rwF R (ix y.2)).2) ∧ (rwF R (ix y.2)).1 + (rwF R (ix y.2)).2 ≤ u ∧ (rwF R (ix y.2)).2 ≤ 256 := by
  obtain ⟨k, hk, e⟩ := ho ht
  refine ⟨by unfold cvt; rw [if_pos ht], ?_⟩
  rw [e, nI_ix (by omega)]
  exact rw_ok hm hk
set_option maxHeartbeats 1000000 in
theorem c_doRowGP {o u n : Nat} {Q : yS → Prop} {z : MS} (ho : o = 22 ∨ o = 23) (hok : pgOK l) (hg : gOK g) (h11 : sR s 123 11 = g + 1) (hp : pgC s g l) (hF : cFs s l R (r :: fs)) (hpl : sI s 123 16 = nI (jP r + 1)) (hlen : fs.length < 40) (hw : okW l n r) (hc : okCs l n (jF r) fs) (hm : okM R u) (hRn : R.length < 2147483647) (hmem : ∀ a, a < u → sI s 130 a = aM z a) (hS : okS R.length (jS r))
    (hn : (if o = 23 then 3 else 2) ≤ (jS r).length) (ht : ((jS r).getD (if o = 23 then 1 else 0) v0).1 = false ∧ ((jS r).getD (if o = 23 then 2 else 1) v0).1 = true ∧ (o = 23 → ((jS r).getD 0 v0).1 = false))
    (HG : o = 22 → ¬ (tpV (jS r) 0 < 0 ∨ ¬ tpV (jS r) 0 < nI (rwF R (ix (tpV (jS r) 1))).2) → ∀ s', frM dStk s s' → cFs s' l R ((jF r, jP r + 1, (false, aM z ((rwF R (ix (tpV (jS r) 1))).1 + ix (tpV (jS r) 0))) :: (jS r).drop 2, jL r) :: fs) → sI s' 123 16 = nI (jP r + 1) → Q s')
    (HG0 : o = 22 → (tpV (jS r) 0 < 0 ∨ ¬ tpV (jS r) 0 < nI (rwF R (ix (tpV (jS r) 1))).2) → raC s l R (rsd l (nI 2) ((jF r, jP r, (jS r).drop 2, jL r) :: fs)) (nI 2) Q)
    (HP : o = 23 → ¬ (tpV (jS r) 1 < 0 ∨ ¬ tpV (jS r) 1 < nI (rwF R (ix (tpV (jS r) 2))).2) → ∀ s', frM (fun a i => dStk a i ∨ a = 130) s s' → (∀ a, sI s' 130 a = if a = (rwF R (ix (tpV (jS r) 2))).1 + ix (tpV (jS r) 1) then tpV (jS r) 0 else sI s 130 a) → cFs s' l R ((jF r, jP r + 1, (jS r).drop 3, jL r) :: fs) → sI s' 123 16 = nI (jP r + 1) → Q s')
    (HP0 : o = 23 → (tpV (jS r) 1 < 0 ∨ ¬ tpV (jS r) 1 < nI (rwF R (ix (tpV (jS r) 2))).2) → raC s l R (rsd l (nI 2) ((jF r, jP r, (jS r).drop 3, jL r) :: fs)) (nI 2) Q) : W_X2_doRow s (nI o) Q := by
  have hgv : g = 37 ∨ g = 55 ∨ g = 73 := hg
  obtain ⟨⟨⟨f1, f2, f3, f4⟩, c14, c15, c17⟩, cw⟩ := id hF
  have dr0 : (jS r).drop 0 = jS r := List.drop_zero
  have hu := hm.1
  unfold W_X2_doRow
  rw [nI_inj (by omega) (by omega), nI_inj (by omega) (by omega), nI_inj (by omega) (by omega)]
  refine ⟨fun _ => ⟨fun _ => ?_, fun h => by omega⟩, fun h => by omega⟩
  intro P52 hP52
  -- an index in a row
  have nneg : ∀ {x : Int32} {m : Nat}, m ≤ 256 → ¬ (x < 0 ∨ ¬ x < nI m) → x = nI (ix x) ∧ ix x < m := by
    intro x m hm2 hx
    have h1 : ¬ x < 0 := fun h => hx (Or.inl h)
    have h2 : x < nI m := Decidable.byContradiction (fun h => hx (Or.inr h))
    rw [Int32.lt_iff_toInt_lt, show (0 : Int32).toInt = 0 from rfl] at h1
    rw [Int32.lt_iff_toInt_lt, nI_toIntU (by omega)] at h2
    obtain ⟨k, hk, hk2⟩ := nI_ofU (x := x) (by omega)
    rw [hk] at h2 ⊢
    rw [nI_toIntU hk2] at h2
    rw [nI_ix hk2]
    exact ⟨rfl, by omega⟩
  rcases ho with ho | ho
  · subst ho
    simp only [show ¬ (22 = 23) by decide, if_false] at hn ht
    refine ⟨fun _ => ?_, fun h => by omega⟩
    apply hP52
    refine c_pop1 (d := 0) (e := 1) (R := R) rfl hlen f2 (by rw [dr0]; exact c17) (by rw [dr0]; exact f3) (by omega) (fun s1 F1 t1 k1 => ?_)
    refine c_pop1 (d := 1) (e := 2) (R := R) rfl hlen f2 t1 k1 (by omega) (fun s2 F2 t2 k2 => ?_)
    have F2' : frM (fun a i => a = 123 ∧ i = 17) s s2 := F1.trans F2
    have F2s : frM dStk s s2 := F2'.mono (fun a i h => by unfold dStk; omega)
    have hdl : ((jS r).drop 2).length + 2 ≤ 16 := by rw [List.length_drop]; omega
    have hcr := cvt_row hm hRn ht.2.1 hS.getD
    rw [cvt_n ht.1, hcr.1]
    have hbase : (rwF R (ix ((jS r).getD 1 v0).2)).1 ≤ 4096 := by omega
    have ra : (tpV (jS r) 0 < 0 ∨ ¬ tpV (jS r) 0 < nI (rwF R (ix (tpV (jS r) 1))).2) → W_X2_throwCode s2 (nI 2) (fun s7 => Q s7) := fun hcnd => by
      have hF2 : cFs s2 l R ((jF r, jP r, (jS r).drop 2, jL r) :: fs) := hF.stk (fun a i h => F2'.1 _ _ (by omega)) t2 k2 (by omega)
      exact c_raise (r := (jF r, jP r, (jS r).drop 2, jL r)) hok hg F2s ((F2s.2.2 _ _).trans h11) (hp.fr (fun a i ha => F2'.1 _ _ (by omega))) hF2 ((F2'.1 _ _ (by omega)).trans hpl) hw hc (by omega) (HG0 rfl hcnd)
    rw [and511 hbase hcr.2.2, shr9 hbase hcr.2.2]
    intro P78 hP78
    refine ⟨fun h => hP78 (ra (Or.inl h)), fun hge => ⟨fun hlt => ?_, fun h => hP78 (ra (Or.inr h))⟩⟩
    refine ⟨fun _ => ?_, fun h => by omega⟩
    have hx : ¬ (tpV (jS r) 0 < 0 ∨ ¬ tpV (jS r) 0 < nI (rwF R (ix (tpV (jS r) 1))).2) := by
      rintro (h | h)
      · exact hge h
      · exact h hlt
    obtain ⟨e1, e2⟩ := nneg hcr.2.2 hx
    have e1 : ((jS r).getD 0 v0).2 = nI (ix (tpV (jS r) 0)) := e1
    have hb1 := hcr.2.1
    have e2 : ix (tpV (jS r) 0) < (rwF R (ix ((jS r).getD 1 v0).2)).2 := e2
    rw [e1, nI_addU, nI_ix (by omega), F2'.1 _ _ (by omega), hmem _ (by omega)]
    refine ⟨nI_inU (by omega) (by omega), ?_⟩
    refine c_pushV (R := R) (y := (false, _)) cvt_f.symm t2 k2 (by omega) (fun s' F' t' k' => ?_)
    have kp : ∀ a i, ¬ ((a = 123 ∧ i = 17) ∨ (a = 131 ∧ 16 * fs.length ≤ i)) → sI s' a i = sI s a i := fun a i h => by rw [F'.1 _ _ (by omega), F2'.1 _ _ (by omega)]
    exact HG rfl hx s' (F2s.trans (F'.mono (fun a i h => by unfold dStk; omega))) (hF.stk (fun a i h => kp _ _ (by omega)) t' k' (by rw [List.length_cons]; omega)) ((kp _ _ (by omega)).trans hpl)
  · subst ho
    simp only [if_true] at hn ht
    refine ⟨fun h => absurd rfl h, fun _ => ?_⟩
    refine c_pop1 (d := 0) (e := 1) (R := R) rfl hlen f2 (by rw [dr0]; exact c17) (by rw [dr0]; exact f3) (by omega) (fun s0 F0 t0 k0 => ?_)
    rw [cvt_n (ht.2.2 trivial)]
    apply hP52
    refine c_pop1 (d := 1) (e := 2) (R := R) rfl hlen f2 t0 k0 (by omega) (fun s1 F1 t1 k1 => ?_)
    refine c_pop1 (d := 2) (e := 3) (R := R) rfl hlen f2 t1 k1 (by omega) (fun s2 F2 t2 k2 => ?_)
    have F2' : frM (fun a i => a = 123 ∧ i = 17) s s2 := (F0.trans F1).trans F2
    have F2s : frM dStk s s2 := F2'.mono (fun a i h => by unfold dStk; omega)
    have hdl : ((jS r).drop 3).length + 3 ≤ 16 := by rw [List.length_drop]; omega
    have hcr := cvt_row hm hRn ht.2.1 hS.getD
    rw [cvt_n ht.1, hcr.1]
    have hbase : (rwF R (ix ((jS r).getD 2 v0).2)).1 ≤ 4096 := by omega
    have ra : (tpV (jS r) 1 < 0 ∨ ¬ tpV (jS r) 1 < nI (rwF R (ix (tpV (jS r) 2))).2) → W_X2_throwCode s2 (nI 2) (fun s7 => Q s7) := fun hcnd => by
      have hF2 : cFs s2 l R ((jF r, jP r, (jS r).drop 3, jL r) :: fs) := hF.stk (fun a i h => F2'.1 _ _ (by omega)) t2 k2 (by omega)
      exact c_raise (r := (jF r, jP r, (jS r).drop 3, jL r)) hok hg F2s ((F2s.2.2 _ _).trans h11) (hp.fr (fun a i ha => F2'.1 _ _ (by omega))) hF2 ((F2'.1 _ _ (by omega)).trans hpl) hw hc (by omega) (HP0 rfl hcnd)
    rw [and511 hbase hcr.2.2, shr9 hbase hcr.2.2]
    intro P78 hP78
    refine ⟨fun h => hP78 (ra (Or.inl h)), fun hge => ⟨fun hlt => ?_, fun h => hP78 (ra (Or.inr h))⟩⟩
    refine ⟨fun h => absurd rfl h, fun _ => ?_⟩
    have hx : ¬ (tpV (jS r) 1 < 0 ∨ ¬ tpV (jS r) 1 < nI (rwF R (ix (tpV (jS r) 2))).2) := by
      rintro (h | h)
      · exact hge h
      · exact h hlt
    obtain ⟨e1, e2⟩ := nneg hcr.2.2 hx
    have e1 : ((jS r).getD 1 v0).2 = nI (ix (tpV (jS r) 1)) := e1
    have hb1 := hcr.2.1
    have e2 : ix (tpV (jS r) 1) < (rwF R (ix ((jS r).getD 2 v0).2)).2 := e2
    rw [e1, nI_addU, nI_ix (n := (rwF R (ix ((jS r).getD 2 v0).2)).1 + ix (tpV (jS r) 1)) (by omega)]
    refine ⟨nI_inU (by omega) (by omega), ?_⟩
    intro s' e'
    have kp : ∀ a i, ¬ ((a = 123 ∧ i = 17) ∨ a = 130) → sI s' a i = sI s a i := fun a i h => by subst e'; rw [sI_w, if_neg (by omega)]; exact F2'.1 _ _ (by omega)
    refine HP rfl hx s' (by subst e'; exact (F2'.mono (fun a i h => by unfold dStk; omega)).wI (Or.inr rfl)) (fun a => ?_) (hF.stk (fun a i h => kp _ _ (by omega)) (by subst e'; rw [sI_w, if_neg (by omega)]; exact t2) (k2.fr (fun i _ _ => by subst e'; rw [sI_w, if_neg (by omega)])) (by omega)) ((kp _ _ (by omega)).trans hpl)
    subst e'
    by_cases c : a = (rwF R (ix (tpV (jS r) 2))).1 + ix (tpV (jS r) 1)
    · rw [if_pos c, sI_w, if_pos ⟨rfl, c⟩]; rfl
    · rw [if_neg c, sI_w, if_neg (fun h => c h.2), F2'.1 _ _ (by omega)]
theorem c_doRowS {u : Nat} {Q : yS → Prop} (hF : cFs s l R (r :: fs)) (hpl : sI s 123 16 = nI (jP r + 1)) (hlen : fs.length < 40) (hm : okM R u) (hRn : R.length < 2147483647) (hS : okS R.length (jS r)) (hn : 1 ≤ (jS r).length) (ht : ((jS r).getD 0 v0).1 = true)
    (H : ∀ s', frM dStk s s' → cFs s' l R ((jF r, jP r + 1, (false, nI (rwF R (ix (tpV (jS r) 0))).2) :: (jS r).drop 1, jL r) :: fs) → sI s' 123 16 = nI (jP r + 1) → Q s') : W_X2_doRow s (nI 24) Q := by
  obtain ⟨⟨⟨f1, f2, f3, f4⟩, c14, c15, c17⟩, cw⟩ := id hF
  have dr0 : (jS r).drop 0 = jS r := List.drop_zero
  have hu := hm.1
  have hdl : ((jS r).drop 1).length + 1 ≤ 16 := by rw [List.length_drop]; omega
  unfold W_X2_doRow
  refine ⟨fun _ => ⟨fun h => absurd rfl h, fun _ => ?_⟩, fun h => absurd h (by decide)⟩
  refine c_pop1 (d := 0) (e := 1) (R := R) rfl hlen f2 (by rw [dr0]; exact c17) (by rw [dr0]; exact f3) (by omega) (fun s1 F1 t1 k1 => ?_)
  have hcr := cvt_row hm hRn ht hS.getD
  rw [hcr.1, and511 (by omega) hcr.2.2]
  refine c_pushV (R := R) (y := (false, _)) cvt_f.symm t1 k1 (by omega) (fun s' F' t' k' => ?_)
  have kp : ∀ a i, ¬ ((a = 123 ∧ i = 17) ∨ (a = 131 ∧ 16 * fs.length ≤ i)) → sI s' a i = sI s a i := fun a i h => by rw [F'.1 _ _ (by omega), F1.1 _ _ (by omega)]
  exact H s' ((F1.mono (fun a i h => by unfold dStk; omega)).trans (F'.mono (fun a i h => by unfold dStk; omega))) (hF.stk (fun a i h => kp _ _ (by omega)) t' k' (by rw [List.length_cons]; omega)) ((kp _ _ (by omega)).trans hpl)
set_option maxHeartbeats 1000000 in
theorem c_doNew {u n : Nat} {Q : yS → Prop} (hok : pgOK l) (hg : gOK g) (h11 : sR s 123 11 = g + 1) (hp : pgC s g l) (hF : cFs s l R (r :: fs)) (hpl : sI s 123 16 = nI (jP r + 1)) (hlen : fs.length < 40) (hw : okW l n r) (hc : okCs l n (jF r) fs) (hu : u ≤ 4096) (h6 : sI s 124 6 = nI u) (hn : 1 ≤ (jS r).length) (ht : ((jS r).getD 0 v0).1 = false)
    (H1 : ¬ (tpV (jS r) 0 < 0 ∨ nI 256 < tpV (jS r) 0 ∨ 4096 < u + ix (tpV (jS r) 0)) → ∀ s', frM (fun a i => dStk a i ∨ a = 130 ∨ (a = 124 ∧ i = 6)) s s' → (∀ a, sI s' 130 a = if u ≤ a ∧ a < u + ix (tpV (jS r) 0) then 0 else sI s 130 a) → sI s' 124 6 = nI (u + ix (tpV (jS r) 0)) → ix (tpV (jS r) 0) ≤ 256 → u + ix (tpV (jS r) 0) ≤ 4096 → (∀ a i, ¬ ((a = 123 ∧ (i = 16 ∨ i = 17)) ∨ (a = 131 ∧ 16 * fs.length ≤ i) ∨ a = 124 ∨ a = 130 ∨ a = 129) → sI s' a i = sI s a i) → sI s' 123 17 = nI (16 * fs.length + ((jS r).drop 1).length + 1) → sI s' 131 (16 * fs.length + ((jS r).drop 1).length) = nI (u * 512 + ix (tpV (jS r) 0)) → (∀ i, i < 16 * fs.length + ((jS r).drop 1).length → sI s' 131 i = sI s 131 i) → sI s' 123 16 = nI (jP r + 1) → Q s')
    (H0 : (tpV (jS r) 0 < 0 ∨ nI 256 < tpV (jS r) 0 ∨ 4096 < u + ix (tpV (jS r) 0)) → raC s l R (rsd l (nI 3) ((jF r, jP r, (jS r).drop 1, jL r) :: fs)) (nI 3) Q) : W_X2_doRow s (nI 21) Q := by
  have hgv : g = 37 ∨ g = 55 ∨ g = 73 := hg
  obtain ⟨⟨⟨f1, f2, f3, f4⟩, c14, c15, c17⟩, cw⟩ := id hF
  have dr0 : (jS r).drop 0 = jS r := List.drop_zero
  have hdl : ((jS r).drop 1).length + 1 ≤ 16 := by rw [List.length_drop]; omega
  unfold W_X2_doRow
  refine ⟨fun h => absurd rfl h, fun _ => ?_⟩
  refine c_pop1 (d := 0) (e := 1) (R := R) rfl hlen f2 (by rw [dr0]; exact c17) (by rw [dr0]; exact f3) (by omega) (fun s2 F2' t2 k2 => ?_)
  rw [cvt_n ht]
  have F2s : frM dStk s s2 := F2'.mono (fun a i h => by unfold dStk; omega)
  have ra : (tpV (jS r) 0 < 0 ∨ nI 256 < tpV (jS r) 0 ∨ 4096 < u + ix (tpV (jS r) 0)) → W_X2_throwCode s2 (nI 3) (fun s7 => Q s7) := fun hcnd => by
    have hF2 : cFs s2 l R ((jF r, jP r, (jS r).drop 1, jL r) :: fs) := hF.stk (fun a i h => F2'.1 _ _ (by omega)) t2 k2 (by omega)
    exact c_raise (r := (jF r, jP r, (jS r).drop 1, jL r)) hok hg F2s ((F2s.2.2 _ _).trans h11) (hp.fr (fun a i ha => F2'.1 _ _ (by omega))) hF2 ((F2'.1 _ _ (by omega)).trans hpl) hw hc (by omega) (H0 hcnd)
  unfold W_X2_makeRow
  refine ⟨nI_inU (by omega) (by omega), ?_⟩
  rw [nI_ix (n := 6) (by omega), F2'.1 124 _ (by omega), h6]
  intro x2 e2
  subst e2
  intro P28 hP28
  have ei : ∀ (h : ¬ tpV (jS r) 0 < 0), ((jS r).getD 0 v0).2 = nI (ix (tpV (jS r) 0)) ∧ ix (tpV (jS r) 0) < 2147483648 := fun h => by
    rw [Int32.lt_iff_toInt_lt, show (0 : Int32).toInt = 0 from rfl] at h
    obtain ⟨k, hk, hk2⟩ := nI_ofU (x := tpV (jS r) 0) (by omega)
    rw [hk, nI_ix hk2]; exact ⟨hk, hk2⟩
  refine ⟨fun h => hP28 (ra (Or.inl h)), fun hge => ?_⟩
  obtain ⟨ev, hv31⟩ := ei hge
  rw [ev, nI_sub (by omega)]
  refine ⟨fun h => hP28 (ra (Or.inr (Or.inl (by show nI 256 < ((jS r).getD 0 v0).2; rw [ev]; exact h)))), fun h256 => ?_⟩
  have h256 : ix (tpV (jS r) 0) ≤ 256 := by
    apply Decidable.byContradiction
    intro hh; exact h256 ((nI_ltU (by omega) (by omega)).mpr (by omega))
  rw [nI_leU (by omega) (by omega)]
  refine ⟨fun hle => ?_, fun hgt => hP28 (ra (Or.inr (Or.inr (by omega))))⟩
  have hcond : ¬ (tpV (jS r) 0 < 0 ∨ nI 256 < tpV (jS r) 0 ∨ 4096 < u + ix (tpV (jS r) 0)) := by
    rintro (h | h | h)
    · exact hge h
    · have h : nI 256 < ((jS r).getD 0 v0).2 := h
      rw [ev, nI_ltU (by omega) (by omega)] at h; omega
    · omega
  have H1 := H1 hcond
  generalize ix (tpV (jS r) 0) = w at *
  rw [nI_addU]
  intro P36 hP36
  suffices hL : ∀ (q k : Nat) (t : yS), k + q = u + w → u ≤ k → frM (fun a i => (a = 123 ∧ i = 17) ∨ a = 130) s t → sI t 123 17 = nI (16 * fs.length + ((jS r).drop 1).length) → (∀ a, sI t 130 a = if u ≤ a ∧ a < k then 0 else sI s 130 a) → P36 (nI k) t from
    hL w u s2 (by omega) (Nat.le_refl _) (F2'.mono (fun a i h => by omega)) t2 (fun a => by rw [if_neg (by omega), F2'.1 _ _ (by omega)])
  intro q
  induction q with
  | zero =>
    intro k t hk huk Ft tt mt
    obtain rfl : k = u + w := by omega
    apply hP36
    refine ⟨fun _ => ⟨nI_inU (by omega) (by omega), ?_⟩, fun hz => absurd ((nI_leU (by omega) (by omega)).mpr (Nat.le_refl _)) hz⟩
    rw [shl9 (by omega) h256]
    intro s7 e7
    have t7 : sI s7 123 17 = nI (16 * fs.length + ((jS r).drop 1).length) := by subst e7; rw [sI_w, if_neg (by omega)]; exact tt
    unfold W_X2_push
    rw [t7, nI_ix (by omega)]
    refine ⟨nI_inU (by omega) (by omega), ?_⟩
    intro s8 e8
    have t8 : sI s8 123 17 = nI (16 * fs.length + ((jS r).drop 1).length) := by subst e8; rw [sI_w, if_neg (by omega)]; exact t7
    rw [t8, nI_s]
    intro s9 e9
    have kp : ∀ a i, ¬ (a = 123 ∧ i = 17) → ¬ (a = 131 ∧ i = 16 * fs.length + ((jS r).drop 1).length) → ¬ (a = 124 ∧ i = 6) → sI s9 a i = sI t a i := fun a i h1 h2 h3 => by
      subst e9; rw [sI_w, if_neg (by omega)]; subst e8; rw [sI_w, if_neg (by omega)]; subst e7; rw [sI_w, if_neg (by omega)]
    refine H1 s9 ?_ (fun a => ?_) ?_ h256 (by omega) (fun a i h => ?_) ?_ ?_ (fun i hi => ?_) ?_
    · subst e9; subst e8; subst e7
      exact (((Ft.mono (fun a i h => by unfold dStk; omega)).wI (by unfold dStk; omega)).wI (by unfold dStk; omega)).wI (by unfold dStk; omega)
    · rw [kp _ _ (by omega) (by omega) (by omega)]; exact mt a
    · subst e9; rw [sI_w, if_neg (by omega)]; subst e8; rw [sI_w, if_neg (by omega)]; subst e7; rw [sI_w, if_pos ⟨rfl, rfl⟩]
    · rw [kp _ _ (by omega) (by omega) (by omega), Ft.1 _ _ (by omega)]
    · subst e9; rw [sI_w, if_pos ⟨rfl, rfl⟩]
    · subst e9; rw [sI_w, if_neg (by omega)]; subst e8; rw [sI_w, if_pos ⟨rfl, rfl⟩]
    · rw [kp _ _ (by omega) (by omega) (by omega), Ft.1 _ _ (by omega)]
    · rw [kp _ _ (by omega) (by omega) (by omega), Ft.1 _ _ (by omega)]; exact hpl
  | succ q ih =>
    intro k t hk huk Ft tt mt
    apply hP36
    refine ⟨fun hz => absurd ((nI_leU (by omega) (by omega)).mp hz) (by omega), fun _ => ⟨nI_inU (by omega) (by omega), ?_⟩⟩
    rw [nI_ix (n := k) (by omega)]
    intro s10 e10 x11 e11
    subst e11; rw [nI_s]
    refine ih (k + 1) s10 (by omega) (by omega) (by subst e10; exact Ft.wI (by omega)) (by subst e10; rw [sI_w, if_neg (by omega)]; exact tt) (fun a => ?_)
    subst e10
    by_cases c : a = k
    · subst c; rw [sI_w, if_pos ⟨rfl, rfl⟩, if_pos (by omega)]
    · rw [sI_w, if_neg (by omega), mt a]
      by_cases c2 : u ≤ a ∧ a < k
      · rw [if_pos c2, if_pos (by omega)]
      · rw [if_neg c2, if_neg (by omega)]
end
